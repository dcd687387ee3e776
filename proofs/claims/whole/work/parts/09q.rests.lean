section
variable {n : Nat} {K : Nat → Nat} {su wi wd ch tc : Nat → Int32} {ki wo so wio co tb : Nat → Int32} {fa : Int32} {B : Nat}
theorem mBy (hn : n ≤ 5) (hB : 1 ≤ B) (hB4 : B ≤ 4) {v : Nat} (hv : v < 2 ^ 31) (co : Nat → Int32) : ∃ co' : Nat → Int32, (∀ j, j < n → co' j = chV B n v j) ∧ f_X12_chooseBy (nI v) (nI B) (nI n) co = some co' := by
  obtain ⟨⟨p, co'⟩, ⟨c0, c1⟩, c2⟩ := lpD (fun k y (q : Int32 × (Nat → Int32)) => f_X12_chooseBy_10 k (nI v) (nI B) (nI n) y q.1 q.2) (fun q => ((-1 : Int32), q.1, q.2)) n (fun c q => q.1 = nI (v / B ^ (n - c)) ∧ ∀ j, c ≤ j → j < n → q.2 j = chV B n v j)
    (fun k q _ => by show f_X12_chooseBy_10 (k + 1) _ _ _ _ _ _ = _; rw [f_X12_chooseBy_10, if_pos (by decide)])
    (fun k c q hc hI => by
      show ∃ st', _ ∧ f_X12_chooseBy_10 (k + 1) _ _ _ _ _ _ = _
      obtain ⟨q1, q2⟩ := q
      obtain ⟨h1, h2⟩ := hI
      dsimp only at h1 h2 ⊢
      have e1 : n - (c + 1) = n - 1 - c := by omega
      have e2 : n - c = (n - 1 - c) + 1 := by omega
      rw [e1] at h1
      have hq : v / B ^ (n - 1 - c) < 2 ^ 31 := Nat.lt_of_le_of_lt (Nat.div_le_self _ _) hv
      have ed : nI (v / B ^ (n - 1 - c)) / nI B = nI (v / B ^ (n - 1 - c) / B) := pk_div hq (by omega) (by omega)
      have er : nI (v / B ^ (n - 1 - c)) - nI (v / B ^ (n - 1 - c)) / nI B * nI B = nI (v / B ^ (n - 1 - c) % B) := pk_rem hq (by omega) (by omega)
      rw [f_X12_chooseBy_10, if_neg (nI_pos (n := c) (by omega)), if_neg (nI_ne0 (by omega) (by omega)), if_neg (ckN (i := c) (by omega) (by decide)), cl5 (i := c) (by omega), h1, er, ed]
      simp only [bnd, nI_1]
      refine ⟨(nI (v / B ^ (n - 1 - c) / B), upd q2 c (nI (v / B ^ (n - 1 - c) % B + 1))), ⟨?_, fun j hj hjn => ?_⟩, rfl⟩
      · show nI (v / B ^ (n - 1 - c) / B) = _
        rw [Nat.div_div_eq_div_mul, e2, Nat.pow_succ]
      · show upd q2 c _ j = _
        by_cases hjc : j = c
        · rw [hjc, upd_eq]; rfl
        · rw [upd_ne hjc]; exact h2 j (by omega) hjn)
    n 4096 (nI v, co) (Nat.le_refl _) (by omega) ⟨by rw [Nat.sub_self, Nat.pow_zero, Nat.div_one], fun j hj hjn => by omega⟩
  refine ⟨co', fun j hj => c1 j (by omega) hj, ?_⟩
  have c2' : f_X12_chooseBy_10 4096 (nI v) (nI B) (nI n) (nI n + (-1)) (nI v) co = some (-1, p, co') := c2
  rw [f_X12_chooseBy]
  simp only [bnd]
  rw [s1, c2']
  rfl
theorem gaV_rp (hB : 1 ≤ B) {v b c : Nat} (hb : b < n) (hc : c < B) : gaH n K su wi fa (upd (chV B n v) b (nI (c + 1))) wd tc b = gaV n K su wi wd tc fa B (rp B n v b c) b := by
  unfold gaV
  refine gaH_congr (fun i hi => ?_) (fun _ _ => rfl) (fun _ _ => rfl) hb
  unfold chV
  rw [dg_rp hB hb hc i hi]
  by_cases hib : i = b
  · rw [if_pos hib, hib, upd_eq]
  · rw [if_neg hib, upd_ne hib]
theorem gaV_own {v b : Nat} (hb : b < n) : gaH n K su wi fa (upd (chV B n v) b (chV B n v b)) wd tc b = gaV n K su wi wd tc fa B v b := by
  unfold gaV
  refine gaH_congr (fun i hi => ?_) (fun _ _ => rfl) (fun _ _ => rfl) hb
  by_cases hib : i = b
  · rw [hib, upd_eq]
  · rw [upd_ne hib]
def RB (n : Nat) (K : Nat → Nat) (su wi wd tc : Nat → Int32) (fa : Int32) (B v b i : Nat) : Prop := ∀ c, c < i → gaV n K su wi wd tc fa B (rp B n v b c) b ≤ gaV n K su wi wd tc fa B v b
theorem mRest32 (hB : 1 ≤ B) (hB4 : B ≤ 4) {v b : Nat} (hH : HA n K su wi wd (chV B n v) tc ki wo so wio co tb) (hb : b < n) (ms : Nat → Int32) (R0 : Prop) : ∃ ms' : Nat → Int32, f_X12_isRest_32 4096 (nI B) (nI n) fa ki so tb wo wio 1 (gaV n K su wi wd tc fa B v b) (nI b) (bI R0) co ms = some (nI (B + 1), gaV n K su wi wd tc fa B v b, nI b, bI (R0 ∧ RB n K su wi wd tc fa B v b B), co, ms') := by
  have hn := hH.1
  obtain ⟨⟨fl, ms'⟩, c1, c2⟩ := lpU1 (fun k y (q : Int32 × (Nat → Int32)) => f_X12_isRest_32 k (nI B) (nI n) fa ki so tb wo wio y (gaV n K su wi wd tc fa B v b) (nI b) q.1 co q.2) (fun q => (nI (B + 1), gaV n K su wi wd tc fa B v b, nI b, q.1, co, q.2)) 1 (B + 1) (fun i q => q.1 = bI (R0 ∧ RB n K su wi wd tc fa B v b (i - 1))) (bI R0, ms) (by omega) (by omega) (bI_congr ⟨fun h => ⟨h, fun c hc => by omega⟩, fun h => h.1⟩)
    (fun k q _ => by show f_X12_isRest_32 (k + 1) _ _ _ _ _ _ _ _ _ _ _ _ _ _ = _; rw [f_X12_isRest_32, if_pos ((nI_ltI (by omega) (by omega)).mpr (by omega))])
    (fun k i q hi1 hi hI => by
      show ∃ st', _ ∧ f_X12_isRest_32 (k + 1) _ _ _ _ _ _ _ _ _ _ _ _ _ _ = _
      obtain ⟨q1, q2⟩ := q
      dsimp only at hI ⊢
      obtain ⟨c, rfl⟩ : ∃ c, i = c + 1 := ⟨i - 1, by omega⟩
      have hcB : c < B := by omega
      rw [f_X12_isRest_32, if_neg (fun h => by have := (nI_ltI (a := B) (b := c + 1) (by omega) (by omega)).mp h; omega)]
      rw [show c + 1 - 1 = c from rfl] at hI
      rw [show c + 1 + 1 - 1 = c + 1 from rfl]
      by_cases hf : R0 ∧ RB n K su wi wd tc fa B v b c
      · rw [bI_t hf] at hI
        obtain ⟨ms3, d⟩ := mGainBy (fa := fa) hH hb (x := nI (c + 1)) (chOk_N (by omega) (by omega)) q2
        rw [gaV_rp hB hb hcB] at d
        rw [hI, if_neg c10, d]
        simp only [Option.bind_some, bnd, nI_1]
        by_cases hx : gaV n K su wi wd tc fa B v b < gaV n K su wi wd tc fa B (rp B n v b c) b
        · rw [if_pos hx]
          refine ⟨(0, ms3), ?_, rfl⟩
          show (0 : Int32) = _
          rw [bI_f (fun h => Int32.not_le.mpr hx (h.2 c (by omega)))]
        · rw [if_neg hx]
          refine ⟨(1, ms3), ?_, rfl⟩
          show (1 : Int32) = _
          have hg : R0 ∧ RB n K su wi wd tc fa B v b (c + 1) := ⟨hf.1, fun c' hc' => by
            by_cases hcc : c' = c
            · rw [hcc]; exact Int32.not_lt.mp hx
            · exact hf.2 c' (by omega)⟩
          rw [bI_t hg]
      · rw [bI_f hf] at hI
        rw [hI, if_pos rfl]
        simp only [bnd, nI_1]
        refine ⟨(0, q2), ?_, rfl⟩
        show (0 : Int32) = _
        rw [bI_f (fun h => hf ⟨h.1, fun c' hc' => h.2 c' (by omega)⟩)])
  have c1' : fl = bI (R0 ∧ RB n K su wi wd tc fa B v b B) := c1
  refine ⟨ms', ?_⟩
  rw [← c1']
  exact c2
theorem mRest4 (hB : 1 ≤ B) (hB4 : B ≤ 4) {v : Nat} (hH : HA n K su wi wd (chV B n v) tc ki wo so wio co tb) : ∀ (m k b : Nat) (ms : Nat → Int32), n - b = m → m < k → b ≤ n → ∃ (y : Int32) (ms' : Nat → Int32), f_X12_isRest_4 k (nI B) (nI n) fa ki so tb wo wio (nI b) (bI (∀ b', b' < b → RB n K su wi wd tc fa B v b' B)) co ms = some (y, bI (RS n K su wi wd tc fa B v), co, ms') := by
  have hn := hH.1
  intro m
  induction m with
  | zero =>
    intro k b ms hm hk hb
    have e : b = n := by omega
    subst e
    obtain ⟨k, rfl⟩ : ∃ k', k = k' + 1 := ⟨k - 1, by omega⟩
    exact ⟨nI b, ms, by rw [f_X12_isRest_4, if_pos (le_t _)]; rfl⟩
  | succ m ih =>
    intro k b ms hm hk hb
    obtain ⟨k, rfl⟩ : ∃ k', k = k' + 1 := ⟨k - 1, by omega⟩
    rw [f_X12_isRest_4, if_neg (le_f (show b < n by omega) (by omega))]
    by_cases hf : ∀ b', b' < b → RB n K su wi wd tc fa B v b' B
    · have h1 := bI_t hf
      obtain ⟨ms1, d1⟩ := mGainBy (fa := fa) hH (show b < n by omega) (x := chV B n v b) (chV_ok hB hB4 v b) ms
      rw [gaV_own (by omega)] at d1
      obtain ⟨ms2, d2⟩ := mRest32 (fa := fa) hB hB4 hH (show b < n by omega) ms1 (∀ b', b' < b → RB n K su wi wd tc fa B v b' B)
      rw [if_neg (by rw [h1]; exact c10), if_neg (ckN (i := b) (by omega) (by decide)), cl5 (i := b) (by omega), hH.eco b (by omega), d1]
      simp only [Option.bind_some]
      rw [d2]
      simp only [Option.bind_some, bnd, nI_1]
      rw [bI_congr (p := (∀ b', b' < b → RB n K su wi wd tc fa B v b' B) ∧ RB n K su wi wd tc fa B v b B) (q := ∀ b', b' < b + 1 → RB n K su wi wd tc fa B v b' B) ⟨fun h b' hb' => by
        by_cases hbb : b' = b
        · rw [hbb]; exact h.2
        · exact h.1 b' (by omega), fun h => ⟨fun b' hb' => h b' (by omega), h b (by omega)⟩⟩]
      exact ih k (b + 1) ms2 (by omega) (by omega) (by omega)
    · rw [bI_f hf, if_pos rfl, bI_f (p := RS n K su wi wd tc fa B v) (fun h => hf (fun b' hb' => h b' (by omega)))]
      exact ⟨_, _, rfl⟩
theorem mRest (hB : 1 ≤ B) (hB4 : B ≤ 4) {v : Nat} (hH : HA n K su wi wd (chV B n v) tc ki wo so wio co tb) (ms : Nat → Int32) : ∃ ms' : Nat → Int32, f_X12_isRest (nI B) (nI n) co fa ki ms so tb wo wio = some (bI (RS n K su wi wd tc fa B v), co, ms') := by
  have hn := hH.1
  obtain ⟨y, ms', h⟩ := mRest4 (fa := fa) hB hB4 hH n 4096 0 ms rfl (by omega) (Nat.zero_le _)
  rw [bI_t (fun b' hb' => by omega)] at h
  have h' : f_X12_isRest_4 4096 (nI B) (nI n) fa ki so tb wo wio 0 1 co ms = some (y, bI (RS n K su wi wd tc fa B v), co, ms') := h
  refine ⟨ms', ?_⟩
  rw [f_X12_isRest, h']
  simp only [Option.bind_some]
  rw [if_neg (fun h => h (bI_01 _))]
theorem mPow (hn : n ≤ 5) (x2 : Int32) (cc sv ms : Nat → Int32) : f_X12_restsNow_9 4096 (nI B) x2 (nI n) fa ki so tb wo wio 0 1 cc sv ms = some (nI n, nI (B ^ n), cc, sv, ms) := by
  obtain ⟨y, c1, c2⟩ := lpU0 (fun k y q => f_X12_restsNow_9 k (nI B) x2 (nI n) fa ki so tb wo wio y q cc sv ms) (fun q => (nI n, q, cc, sv, ms)) n (fun i q => q = nI (B ^ i)) 1 (by omega) rfl
    (fun k q _ => by show f_X12_restsNow_9 (k + 1) _ _ _ _ _ _ _ _ _ _ _ _ _ _ = _; rw [f_X12_restsNow_9, if_pos (le_t n)])
    (fun k i q hi hI => by
      show ∃ st', _ ∧ f_X12_restsNow_9 (k + 1) _ _ _ _ _ _ _ _ _ _ _ _ _ _ = _
      rw [f_X12_restsNow_9, if_neg (le_f hi (by omega)), hI]
      simp only [bnd, nI_1, pk_mul]
      exact ⟨_, by rw [Nat.pow_succ], rfl⟩)
  have c1' : y = nI (B ^ n) := c1
  rw [← c1']
  exact c2
/-- the least from c on below N with P, or -1 -/
def LsM (P : Nat → Prop) (c N : Nat) (y : Int32) : Prop := (y = -1 ∧ ∀ u, c ≤ u → u < N → ¬ P u) ∨ ∃ f : Nat, y = nI f ∧ c ≤ f ∧ f < N ∧ P f ∧ ∀ u, c ≤ u → u < f → ¬ P u
theorem mLoop39 (hB : 1 ≤ B) (hB4 : B ≤ 4) (hH : HA n K su wi wd ch tc ki wo so wio co tb) (x2 : Int32) (cc sv ms : Nat → Int32) : ∃ (y : Int32) (cc' ms' : Nat → Int32), LsM (RS n K su wi wd tc fa B) 0 (B ^ n) y ∧ f_X12_restsNow_39 4096 (nI B) x2 (nI n) fa ki so tb wo wio (nI (B ^ n) + (-1)) (-1) 0 cc sv ms = some (-1, y, nI (cnt (pB (RS n K su wi wd tc fa B)) (B ^ n)), cc', sv, ms') := by
  have hn := hH.1
  have hp := pw_le hB4 hn
  obtain ⟨⟨y, a, cc', ms'⟩, ⟨c1, a', c2, c3⟩, c4⟩ := lpD (fun k y (q : Int32 × Int32 × (Nat → Int32) × (Nat → Int32)) => f_X12_restsNow_39 k (nI B) x2 (nI n) fa ki so tb wo wio y q.1 q.2.1 q.2.2.1 sv q.2.2.2) (fun q => ((-1 : Int32), q.1, q.2.1, q.2.2.1, sv, q.2.2.2)) (B ^ n)
    (fun c q => LsM (RS n K su wi wd tc fa B) c (B ^ n) q.1 ∧ ∃ a : Nat, q.2.1 = nI a ∧ a + cnt (pB (RS n K su wi wd tc fa B)) c = cnt (pB (RS n K su wi wd tc fa B)) (B ^ n))
    (fun k q _ => by show f_X12_restsNow_39 (k + 1) _ _ _ _ _ _ _ _ _ _ _ _ _ _ _ = _; rw [f_X12_restsNow_39, if_pos (by decide)])
    (fun k v q hv hI => by
      show ∃ st', _ ∧ f_X12_restsNow_39 (k + 1) _ _ _ _ _ _ _ _ _ _ _ _ _ _ _ = _
      obtain ⟨q1, q2, q3, q4⟩ := q
      obtain ⟨hI1, a, hI2, hI3⟩ := hI
      dsimp only at hI1 hI2 ⊢
      obtain ⟨co', d1, d2⟩ := mBy hn hB hB4 (show v < 2 ^ 31 by omega) q3
      have hH' : HA n K su wi wd (chV B n v) tc ki wo so wio co' tb := hH.mono hH.w (fun j hj => ⟨chV_ok hB hB4 v j, d1 j hj⟩) hH.t
      obtain ⟨ms3, d3⟩ := mRest (fa := fa) hB hB4 hH' q4
      rw [f_X12_restsNow_39, if_neg (nI_pos (n := v) (by omega)), d2]
      simp only [Option.bind_some]
      rw [d3]
      simp only [Option.bind_some, bnd]
      rw [cnt] at hI3
      by_cases c : RS n K su wi wd tc fa B v
      · rw [bI_t c, if_neg c10]
        rw [show pB (RS n K su wi wd tc fa B) v = true from bl_t c] at hI3
        refine ⟨(nI v, q2 + 1, co', ms3), ⟨Or.inr ⟨v, rfl, by omega, hv, c, fun u h1 h2 => by omega⟩, a + 1, ?_, ?_⟩, rfl⟩
        · show q2 + 1 = _
          rw [hI2, nI_1]
        · rw [if_pos rfl] at hI3
          omega
      · rw [bI_f c, if_pos rfl, Int32.add_zero]
        rw [show pB (RS n K su wi wd tc fa B) v = false from bl_f c] at hI3
        refine ⟨(q1, q2, co', ms3), ⟨?_, a, hI2, ?_⟩, rfl⟩
        · rcases hI1 with ⟨e, h⟩ | ⟨f, e, h1, h2, h3, h4⟩
          · refine Or.inl ⟨e, fun u hu1 hu2 => ?_⟩
            by_cases huv : u = v
            · rw [huv]; exact c
            · exact h u (by omega) hu2
          · refine Or.inr ⟨f, e, by omega, h2, h3, fun u hu1 hu2 => ?_⟩
            by_cases huv : u = v
            · rw [huv]; exact c
            · exact h4 u (by omega) hu2
        · rw [if_neg (by decide)] at hI3
          exact hI3)
    (B ^ n) 4096 (-1, 0, cc, ms) (Nat.le_refl _) (by omega) ⟨Or.inl ⟨rfl, fun u h1 h2 => by omega⟩, 0, rfl, Nat.zero_add _⟩
  refine ⟨y, cc', ms', c1, ?_⟩
  have c2' : a = nI a' := c2
  have c3' : a' = cnt (pB (RS n K su wi wd tc fa B)) (B ^ n) := c3
  rw [← c3', ← c2']
  exact c4
/-- what rests() tells: x2 is 0, or 10 + b -/
def rsV (n B cn : Nat) (y : Int32) (x2 : Nat) : Int32 := if x2 = 0 then nI cn else if y = -1 then -1 else if x2 - 10 < n then chV B n y.toNatClampNeg (x2 - 10) else -1
theorem mRestsNow (hB : 1 ≤ B) (hB4 : B ≤ 4) (hH : HA n K su wi wd ch tc ki wo so wio co tb) {x2 : Nat} (hx : x2 = 0 ∨ (10 ≤ x2 ∧ x2 ≤ 14)) (sv ms : Nat → Int32) : ∃ (y : Int32) (co' sv' ms' : Nat → Int32), LsM (RS n K su wi wd tc fa B) 0 (B ^ n) y ∧ HA n K su wi wd ch tc ki wo so wio co' tb ∧ f_X12_restsNow (nI B) (nI x2) (nI n) co fa ki sv ms so tb wo wio = some (rsV n B (cnt (pB (RS n K su wi wd tc fa B)) (B ^ n)) y x2, co', sv', ms') := by
  have hn := hH.1
  have hp := pw_le hB4 hn
  obtain ⟨sv', b1, b2⟩ := mSave hn co sv
  obtain ⟨y, cc', ms', c1, c2⟩ := mLoop39 (fa := fa) hB hB4 hH (nI x2) co sv' ms
  have back : ∀ cc : Nat → Int32, ∃ co' : Nat → Int32, f_X12_load (nI n) cc sv' = some co' ∧ HA n K su wi wd ch tc ki wo so wio co' tb := fun cc => by
    obtain ⟨co', b4, b5⟩ := mLoad hn cc sv'
    exact ⟨co', b5, hH.mono hH.w (fun i hi => ⟨(hH.c i hi).1, by rw [b4 i hi, b1 i hi, hH.eco i hi]⟩) hH.t⟩
  obtain ⟨co1, l1, l2⟩ := back cc'
  refine ⟨y, ?_⟩
  rw [f_X12_restsNow, b2]
  simp only [Option.bind_some]
  rw [mPow hn]
  simp only [Option.bind_some, bnd]
  rw [s1, c2]
  simp only [Option.bind_some]
  rcases hx with rfl | ⟨hx1, hx2⟩
  · rw [rsV, if_pos rfl]
    have ho : f_X12_isBidder (nI 0 - 10) (nI n) = some 0 := isB_out hn (Or.inl (by decide))
    rw [ho, l1]
    simp only [Option.bind_some]
    rw [if_pos (show nI 0 = 0 from rfl), if_pos (show True from trivial)]
    split
    · exact ⟨co1, sv', ms', c1, l2, rfl⟩
    · exact ⟨co1, sv', ms', c1, l2, rfl⟩
  · have hne : ¬ nI x2 = 0 := nI_ne0 (by omega) (by omega)
    have es : nI x2 - 10 = nI (x2 - 10) := pk_sub (a := x2) (b := 10) hx1
    rw [rsV, if_neg (show ¬ x2 = 0 by omega)]
    by_cases hy : y = -1
    · rw [if_pos hy, if_pos hy, l1]
      simp only [Option.bind_some]
      rw [if_neg hne]
      exact ⟨co1, sv', ms', c1, l2, rfl⟩
    · obtain ⟨f, hf, hfl⟩ : ∃ f : Nat, y = nI f ∧ f < B ^ n := by
        rcases c1 with ⟨e, _⟩ | ⟨f, e, _, h2, _⟩
        · exact absurd e hy
        · exact ⟨f, e, h2⟩
      rw [if_neg hy, if_neg hy, es]
      by_cases hb : x2 - 10 < n
      · rw [isB_in hb hn, if_pos hb]
        simp only [Option.bind_some]
        obtain ⟨co2, d1, d2⟩ := mBy hn hB hB4 (show f < 2 ^ 31 by omega) cc'
        obtain ⟨co3, k1, k2⟩ := back co2
        rw [if_neg c10, hf, d2]
        simp only [Option.bind_some]
        rw [if_neg (ckN (i := x2 - 10) (by omega) (by decide)), cl5 (i := x2 - 10) (by omega), k1, cl5 (i := f) (by omega), d1 _ hb]
        simp only [Option.bind_some]
        rw [if_neg hne]
        rw [hf] at c1
        exact ⟨co3, sv', ms', c1, k2, rfl⟩
      · rw [isB_out hn (Or.inr ((nI_b (by omega) (by omega)).mpr (by omega))), if_neg hb, l1]
        simp only [Option.bind_some]
        rw [if_pos trivial, if_neg hne]
        exact ⟨co1, sv', ms', c1, l2, rfl⟩
theorem LsM_cnt {P : Nat → Prop} {N : Nat} {y : Int32} (hN : N ≤ 1024) (h : LsM P 0 N y) : (y = -1 ∧ cnt (pB P) N = 0) ∨ (∃ f : Nat, y = nI f ∧ f < N ∧ FstP P N f ∧ cnt (pB P) N ≠ 0) := by
  rcases h with ⟨e, h⟩ | ⟨f, e, _, h2, h3, h4⟩
  · exact Or.inl ⟨e, cnt_zero.mpr (fun j hj => bl_f (h j (by omega) hj))⟩
  · refine Or.inr ⟨f, e, h2, ⟨h2, h3, fun u hu => h4 u (by omega) hu⟩, fun hz => ?_⟩
    have := cnt_zero.mp hz f h2
    rw [show pB P f = true from bl_t h3] at this
    cases this
theorem rest_fin (hn : n ≤ 5) {P : Nat → Prop} {y : Int32} (hp : B ^ n ≤ 1024) (h : LsM P 0 (B ^ n) y) {fi : Nat → Int32} (hfi : ∀ f, FstP P (B ^ n) f → ∀ j, j < n → fi j = chV B n f j) {x2 : Nat} (hx1 : 10 ≤ x2) (hx2 : x2 ≤ 14) : f_X8_choiceInFirst (nI x2 - 10) fi (nI (cnt (pB P) (B ^ n))) (nI n) = some (rsV n B (cnt (pB P) (B ^ n)) y x2) := by
  have es : nI x2 - 10 = nI (x2 - 10) := pk_sub (a := x2) (b := 10) hx1
  have hc := cnt_le (pB P) (B ^ n)
  rw [es, f_X8_choiceInFirst, rsV, if_neg (show ¬ x2 = 0 by omega)]
  rcases LsM_cnt hp h with ⟨e, hz⟩ | ⟨f, e, hf, hF, hz⟩
  · rw [hz, if_pos (show nI 0 = 0 from rfl), if_pos e]
  · rw [if_neg (nI_ne0 (by omega) (by omega)), e, if_neg (nI_m1 (by omega)), cl5 (i := f) (by omega)]
    by_cases hb : x2 - 10 < n
    · rw [if_pos ((nI_ltI (by omega) (by omega)).mpr hb), if_pos hb, if_neg (ckN (i := x2 - 10) (by omega) (by decide)), cl5 (i := x2 - 10) (by omega), hfi f hF _ hb]
    · rw [if_neg (fun h => hb ((nI_ltI (by omega) (by omega)).mp h)), if_neg hb]
theorem q_rests (hH : HA n K su wi wd ch tc ki wo so wio co tb) {r0 : Nat} (hr : r0 ≤ 20) (x1 x2 : Int32) (en : Nat → Int32) (g0 : Int32) (sl st tt : Nat → Int32) (vb vh vs : Int32) (cs fi ga ge w sv ms : Nat → Int32) : ∃ (r : Int32) (r1 : Nat) (en' : Nat → Int32) (g' : Int32) (sl' st' tt' : Nat → Int32) (vb' vh' vs' : Int32) (cs' fi' ga' ge' w' co' sv' ms' : Nat → Int32), r1 ≤ 20 ∧ f_X11_rests x1 x2 K ch su tc wd wi en g0 sl st tt fa (nI n) (nI r0) vb cs fi ga ge vh vs w = some (r, en', g', sl', st', tt', nI r1, vb', cs', fi', ga', ge', vh', vs', w') ∧ f_X12_rests x1 x2 (nI r0) (nI n) co fa ki sv ms so tb wo wio = some (r, nI r1, co', sv', ms') ∧ HA n K su wi wd ch tc ki wo so wio co' tb := by
  have hn := hH.1
  by_cases h1 : x1 < 1
  · refine ⟨-102, r0, en, g0, sl, st, tt, vb, vh, vs, cs, fi, ga, ge, w, co, sv, ms, hr, ?_, ?_, hH⟩
    · rw [f_X11_rests, if_pos h1]
    · rw [f_X12_rests, wi_lo h1]; rfl
  by_cases h2 : x1 ≤ 4
  · by_cases hx : x2 = 0 ∨ (¬ x2 < 10 ∧ x2 ≤ 14)
    · by_cases h0 : n = 0
      · subst h0
        refine ⟨-103, r0, en, g0, sl, st, tt, vb, vh, vs, cs, fi, ga, ge, w, co, sv, ms, hr, ?_, ?_, hH⟩
        · rw [f_X11_rests, if_neg h1, if_pos h2]
          rcases hx with h3 | ⟨h3, h4⟩
          · rw [if_pos h3]; rfl
          · rw [if_neg (fun h => h3 (by rw [h]; decide)), if_neg h3, if_pos h4]; rfl
        · rw [f_X12_rests, wi_in h1 h2]
          simp only [Option.bind_some]
          rw [if_neg c10]
          rcases hx with h3 | ⟨h3, h4⟩
          · rw [if_pos h3]; rfl
          · rw [if_neg (fun h => h3 (by rw [h]; decide)), wi_in h3 h4]; rfl
      · have hz : ¬ nI n = 0 := nI_ne0 (by omega) (by omega)
        by_cases hr2 : r0 = 20
        · subst hr2
          refine ⟨-103, 20, en, g0, sl, st, tt, vb, vh, vs, cs, fi, ga, ge, w, co, sv, ms, hr, ?_, ?_, hH⟩
          · rw [f_X11_rests, if_neg h1, if_pos h2]
            rcases hx with h3 | ⟨h3, h4⟩
            · rw [if_pos h3, if_neg hz]; rfl
            · rw [if_neg (fun h => h3 (by rw [h]; decide)), if_neg h3, if_pos h4, if_neg hz]; rfl
          · rw [f_X12_rests, wi_in h1 h2]
            simp only [Option.bind_some]
            rw [if_neg c10]
            rcases hx with h3 | ⟨h3, h4⟩
            · rw [if_pos h3, if_neg hz]; rfl
            · rw [if_neg (fun h => h3 (by rw [h]; decide)), wi_in h3 h4]
              simp only [Option.bind_some]
              rw [if_neg c10, if_neg hz]; rfl
        · have hlt : nI r0 < 20 := (nI_ltI (a := r0) (b := 20) (by omega) (by decide)).mpr (by omega)
          have hne : ¬ nI r0 = 20 := fun h => hr2 ((nI_eq (a := r0) (b := 20) (by omega) (by decide)).mp h)
          obtain ⟨B, rfl, hB, hB4⟩ := rng (lo := 1) (hi := 4) h1 h2 (by decide) (by decide)
          obtain ⟨x2, rfl, hxx⟩ : ∃ x : Nat, x2 = nI x ∧ (x = 0 ∨ (10 ≤ x ∧ x ≤ 14)) := by
            rcases hx with h3 | ⟨h3, h4⟩
            · exact ⟨0, h3, Or.inl rfl⟩
            · obtain ⟨x, e, a, b⟩ := rng (lo := 10) (hi := 14) h3 h4 (by decide) (by decide)
              exact ⟨x, e, Or.inr ⟨a, b⟩⟩
          have hp := pw_le hB4 hn
          obtain ⟨cs', fi', ga', ge', en', g', sl', st', tt', w', a1, a2⟩ := cFind (su := su) (wi := wi) (tc := tc) (fa := fa) hn hB hB4 hH.V vb vh vs g0 cs fi ga ge en sl st tt w
          obtain ⟨y, co', sv', ms', b1, b2, b3⟩ := mRestsNow (fa := fa) hB hB4 hH hxx sv ms
          refine ⟨rsV n B (cnt (pB (RS n K su wi wd tc fa B)) (B ^ n)) y x2, r0 + 1, en', g', sl', st', tt', nI B, nI (cnt (pB (RS n K su wi wd tc fa B)) (B ^ n)), nI n, cs', fi', ga', ge', w', co', sv', ms', by omega, ?_, ?_, b2⟩
          rotate_left
          · rw [f_X12_rests, wi_in h1 h2]
            simp only [Option.bind_some]
            rw [if_neg c10]
            rcases hx with h3 | ⟨h3, h4⟩
            · rw [if_pos h3, if_neg hz, if_neg hne, b3]
              simp only [Option.bind_some, bnd, nI_1]
            · rw [if_neg (fun h => h3 (by rw [h]; decide)), wi_in h3 h4]
              simp only [Option.bind_some]
              rw [if_neg c10, if_neg hz, if_neg hne, b3]
              simp only [Option.bind_some, bnd, nI_1]
          · rw [f_X11_rests, if_neg h1, if_pos h2]
            rcases hxx with rfl | ⟨h3, h4⟩
            · rw [if_pos (show nI 0 = 0 from rfl), if_neg hz, if_pos hlt, a2]
              simp only [Option.bind_some, bnd, nI_1]
              rw [rsV, if_pos rfl]
            · rw [if_neg (nI_ne0 (n := x2) (by omega) (by omega)), if_neg (fun h => by have := (nI_ltI (a := x2) (b := 10) (by omega) (by decide)).mp h; omega), if_pos (show nI x2 ≤ 14 from (nI_b (a := x2) (b := 14) (by omega) (by decide)).mpr h4), if_neg hz, if_pos hlt, a2]
              simp only [Option.bind_some, bnd, nI_1]
              rw [rest_fin hn hp b1 a1 h3 h4]
              rfl
    · have h3 : ¬ x2 = 0 := fun h => hx (Or.inl h)
      refine ⟨-102, r0, en, g0, sl, st, tt, vb, vh, vs, cs, fi, ga, ge, w, co, sv, ms, hr, ?_, ?_, hH⟩
      · rw [f_X11_rests, if_neg h1, if_pos h2, if_neg h3]
        by_cases h4 : x2 < 10
        · rw [if_pos h4]
        · rw [if_neg h4, if_neg (fun h => hx (Or.inr ⟨h4, h⟩))]
      · rw [f_X12_rests, wi_in h1 h2]
        simp only [Option.bind_some]
        rw [if_neg c10, if_neg h3]
        by_cases h4 : x2 < 10
        · rw [wi_lo h4]; rfl
        · rw [wi_hi (fun h => hx (Or.inr ⟨h4, h⟩))]; rfl
  · refine ⟨-102, r0, en, g0, sl, st, tt, vb, vh, vs, cs, fi, ga, ge, w, co, sv, ms, hr, ?_, ?_, hH⟩
    · rw [f_X11_rests, if_neg h1, if_neg h2]
    · rw [f_X12_rests, wi_hi h2]; rfl
end
