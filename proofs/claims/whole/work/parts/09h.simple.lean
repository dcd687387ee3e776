section
theorem c10 : ¬ ((1 : Int32) = 0) := by decide
def cOk (c : Int32) : Prop := ∃ k : Nat, c = nI k ∧ 32 ≤ k ∧ k ≤ 126
/-- the two pages are one -/
def PA (pl : Nat) (cd pg : Nat → Int32) : Prop := pl ≤ 28 ∧ ∀ k, k < pl → pg k = cd k ∧ cOk (cd k)
theorem byte_id : ∀ c : Nat, c < 128 → (nI c).toInt8.toInt32 = nI c := by decide +kernel
theorem q_letter {pl : Nat} {cd pg : Nat → Int32} (h : PA pl cd pg) (x : Int32) : ∃ (r : Int32) (cd' pg' : Nat → Int32) (pl' : Nat), f_X11_letter x cd (nI pl) = some (r, cd', nI pl') ∧ f_X12_letter x pg (nI pl) = some (r, pg', nI pl') ∧ PA pl' cd' pg' := by
  have hpl := h.1
  by_cases h1 : x < 32
  · refine ⟨-102, cd, pg, pl, ?_, ?_, h⟩
    · rw [f_X11_letter, if_pos h1]
    · rw [f_X12_letter, wi_lo h1]; rfl
  · by_cases h2 : x ≤ 126
    · obtain ⟨c, rfl, hc1, hc2⟩ := rng (lo := 32) (hi := 126) h1 h2 (by decide) (by decide)
      by_cases h3 : pl = 28
      · subst h3
        refine ⟨-104, cd, pg, 28, ?_, ?_, h⟩
        · rw [f_X11_letter, if_neg h1, if_pos h2]; rfl
        · rw [f_X12_letter, wi_in h1 h2]; rfl
      · have hlt : pl < 28 := by omega
        have e1 : nI pl < 28 := (nI_ltI (a := pl) (b := 28) (by omega) (by decide)).mpr hlt
        have e2 : ¬ (28 : Int32) ≤ nI pl := Int32.not_le.mpr e1
        have e3 : ¬ nI pl = 28 := fun hq => h3 ((nI_eq (a := pl) (b := 28) (by omega) (by decide)).mp hq)
        refine ⟨nI (pl + 1), upd cd pl (nI c), upd pg pl (nI c), pl + 1, ?_, ?_, by omega, fun k hk => ?_⟩
        · rw [f_X11_letter, if_neg h1, if_pos h2, f_X7_isFull, if_pos e1]
          simp only [Option.bind_some]
          rw [if_pos trivial, f_X7_write, if_neg e2, if_neg (ckN (i := pl) (by omega) (by decide)), cl5 (by omega)]
          simp only [bnd, nI_1, Option.bind_some]
        · rw [f_X12_letter, wi_in h1 h2]
          simp only [Option.bind_some]
          rw [if_neg c10, if_neg e3, if_neg (ckN (i := pl) (by omega) (by decide)), cl5 (by omega), pk_vb, byte_id c (by omega)]
          simp only [bnd, nI_1]
        · by_cases hkp : k = pl
          · subst hkp
            rw [upd_eq, upd_eq]
            exact ⟨rfl, c, rfl, hc1, hc2⟩
          · rw [upd_ne hkp, upd_ne hkp]
            exact h.2 k (by omega)
    · refine ⟨-102, cd, pg, pl, ?_, ?_, h⟩
      · rw [f_X11_letter, if_neg h1, if_neg h2]
      · rw [f_X12_letter, wi_hi h2]; rfl
variable {n : Nat} {K : Nat → Nat} {su wi wd ch tc : Nat → Int32} {ki wo so wio co tb : Nat → Int32} {fa : Int32}
theorem q_as (hH : HA n K su wi wd ch tc ki wo so wio co tb) (x1 x2 : Int32) : ∃ r : Int32, f_X11_as x1 x2 K (nI n) = some r ∧ f_X12_as x1 x2 (nI n) ki = some r := by
  have hn := hH.1
  rcases pk_ix x1 (n := n) (by omega) with h | h | ⟨b, hb, rfl⟩
  · exact ⟨-101, by rw [f_X11_as, has_out (Or.inl h)]; rfl, by rw [f_X12_as, isB_out hn (Or.inl h)]; rfl⟩
  · exact ⟨-101, by rw [f_X11_as, has_out (Or.inr h)]; rfl, by rw [f_X12_as, isB_out hn (Or.inr h)]; rfl⟩
  · rw [f_X11_as, f_X12_as, has_in hb (by omega), isB_in hb hn]
    simp only [Option.bind_some]
    rw [if_neg c10, if_neg c10]
    by_cases h1 : x2 < 0
    · rw [if_pos h1, wi_lo h1]; exact ⟨-102, rfl, rfl⟩
    · rw [if_neg h1]
      by_cases h2 : x2 ≤ 4
      · obtain ⟨w, rfl, _, hw⟩ := rng (lo := 0) (hi := 4) h1 h2 (by decide) (by decide)
        rw [if_pos h2, wi_in h1 h2]
        have hc : ¬ (nI b < 0 ∨ 5 ≤ (nI b).toNatClampNeg) := ckN (i := b) (by omega) (by decide)
        simp only [Option.bind_some, bnd]
        rw [if_neg hc, if_neg c10, if_neg hc, cl5 (by omega), hH.eki b hb]
        have hk := hH.K5 b hb
        generalize K b = k at hk ⊢
        have key : ∀ k : Nat, k < 5 → ∀ w : Nat, w < 5 → ((f_X11_isOfKind k (nI w)).bind fun q6 => if q6 = 0 then some false else some true) = (if nI w = 0 then some true else if nI k = nI w then some true else if nI w = 1 then (if nI k = 4 then some true else some false) else some false) := by decide +kernel
        have hkw := key k hk w (by omega)
        rw [f_X11_isOfKind] at hkw ⊢
        simp only [Option.bind_some] at hkw ⊢
        generalize (if nI w = 1 then if k = 1 ∨ k = 4 then (1 : Int32) else 0 else if nI w = 2 then if k = 2 then 1 else 0 else if nI w = 3 then if k = 3 then 1 else 0 else if nI w = 4 then if k = 4 then 1 else 0 else 1) = z at hkw ⊢
        by_cases c0 : z = 0
        · rw [if_pos c0] at hkw ⊢
          refine ⟨-1, rfl, ?_⟩
          revert hkw
          repeat' split
          all_goals first | (intro h; cases h; done) | (intro _; rfl)
        · rw [if_neg c0] at hkw ⊢
          refine ⟨nI b, rfl, ?_⟩
          revert hkw
          repeat' split
          all_goals first | (intro h; cases h; done) | (intro _; rfl)
      · rw [if_neg h2, wi_hi h2]; exact ⟨-102, rfl, rfl⟩
theorem HA.mono (hH : HA n K su wi wd ch tc ki wo so wio co tb) {wd' ch' tc' wo' co' tb' : Nat → Int32} (h1 : ∀ i, i < n → wdOk (wd' i) ∧ wo' i = wd' i) (h2 : ∀ i, i < n → chOk (ch' i) ∧ co' i = ch' i) (h3 : ∀ i, i < n → tcOk n (tc' i) ∧ tb' i = tc' i) : HA n K su wi wd' ch' tc' ki wo' so wio co' tb' := ⟨hH.1, fun i hi => by
  obtain ⟨⟨a1, _, _⟩, a4, a5, _, a7, _, a9, a10, _, _⟩ := hH.2 i hi
  exact ⟨⟨a1, (h1 i hi).1, (h2 i hi).1⟩, a4, a5, (h3 i hi).1, a7, (h1 i hi).2, a9, a10, (h2 i hi).2, (h3 i hi).2⟩⟩
theorem HA.w (hH : HA n K su wi wd ch tc ki wo so wio co tb) : ∀ i, i < n → wdOk (wd i) ∧ wo i = wd i := fun i hi => ⟨(hH.2 i hi).1.2.1, hH.ewo i hi⟩
theorem HA.c (hH : HA n K su wi wd ch tc ki wo so wio co tb) : ∀ i, i < n → chOk (ch i) ∧ co i = ch i := fun i hi => ⟨(hH.2 i hi).1.2.2, hH.eco i hi⟩
theorem HA.t (hH : HA n K su wi wd ch tc ki wo so wio co tb) : ∀ i, i < n → tcOk n (tc i) ∧ tb i = tc i := fun i hi => ⟨(hH.2 i hi).2.2.2.1, hH.etb i hi⟩
theorem two_upd {P : Int32 → Prop} {f f' : Nat → Int32} {b : Nat} {x : Int32} (h : ∀ i, i < n → P (f i) ∧ f' i = f i) (hx : P x) : ∀ i, i < n → P (upd f b x i) ∧ upd f' b x i = upd f b x i := fun i hi => by
  by_cases hib : i = b
  · subst hib; rw [upd_eq, upd_eq]; exact ⟨hx, rfl⟩
  · rw [upd_ne hib, upd_ne hib]; exact h i hi
theorem q_choose (hH : HA n K su wi wd ch tc ki wo so wio co tb) (x1 x2 : Int32) : ∃ (r : Int32) (ch' co' : Nat → Int32), f_X11_choose x1 x2 ch (nI n) = some (r, ch') ∧ f_X12_choose x1 x2 (nI n) co = some (r, co') ∧ HA n K su wi wd ch' tc ki wo so wio co' tb := by
  have hn := hH.1
  rcases pk_ix x1 (n := n) (by omega) with h | h | ⟨b, hb, rfl⟩
  · exact ⟨-101, ch, co, by rw [f_X11_choose, has_out (Or.inl h)]; rfl, by rw [f_X12_choose, isB_out hn (Or.inl h)]; rfl, hH⟩
  · exact ⟨-101, ch, co, by rw [f_X11_choose, has_out (Or.inr h)]; rfl, by rw [f_X12_choose, isB_out hn (Or.inr h)]; rfl, hH⟩
  · rw [f_X11_choose, f_X12_choose, has_in hb (by omega), isB_in hb hn]
    have hc : ¬ (nI b < 0 ∨ 5 ≤ (nI b).toNatClampNeg) := ckN (i := b) (by omega) (by decide)
    simp only [Option.bind_some, bnd]
    rw [if_neg c10, if_neg c10, if_neg hc, if_neg hc, cl5 (by omega), hH.eco b hb]
    by_cases h0 : x2 = -1
    · rw [if_pos h0, if_pos h0]
      exact ⟨_, _, _, rfl, rfl, hH.mono hH.w (two_upd hH.c (Or.inl h0)) hH.t⟩
    · rw [if_neg h0, if_neg h0]
      by_cases h1 : x2 < 1
      · rw [if_pos h1, wi_lo h1]; exact ⟨-102, ch, co, rfl, rfl, hH⟩
      · rw [if_neg h1]
        by_cases h2 : x2 ≤ 30
        · obtain ⟨w, hw, hw1, hw2⟩ := rng (lo := 1) (hi := 30) h1 h2 (by decide) (by decide)
          rw [if_pos h2, wi_in h1 h2]
          simp only [Option.bind_some]
          rw [if_neg c10]
          exact ⟨_, _, _, rfl, rfl, hH.mono hH.w (two_upd hH.c (Or.inr ⟨w, hw, hw1, hw2⟩)) hH.t⟩
        · rw [if_neg h2, wi_hi h2]; exact ⟨-102, ch, co, rfl, rfl, hH⟩
theorem q_wind (hH : HA n K su wi wd ch tc ki wo so wio co tb) (x1 x2 : Int32) : ∃ (r : Int32) (wd' wo' : Nat → Int32), f_X11_wind x1 x2 wd (nI n) = some (r, wd') ∧ f_X12_wind x1 x2 (nI n) wo = some (r, wo') ∧ HA n K su wi wd' ch tc ki wo' so wio co tb := by
  have hn := hH.1
  rcases pk_ix x1 (n := n) (by omega) with h | h | ⟨b, hb, rfl⟩
  · exact ⟨-101, wd, wo, by rw [f_X11_wind, has_out (Or.inl h)]; rfl, by rw [f_X12_wind, isB_out hn (Or.inl h)]; rfl, hH⟩
  · exact ⟨-101, wd, wo, by rw [f_X11_wind, has_out (Or.inr h)]; rfl, by rw [f_X12_wind, isB_out hn (Or.inr h)]; rfl, hH⟩
  · rw [f_X11_wind, f_X12_wind, has_in hb (by omega), isB_in hb hn]
    have hc : ¬ (nI b < 0 ∨ 5 ≤ (nI b).toNatClampNeg) := ckN (i := b) (by omega) (by decide)
    simp only [Option.bind_some, bnd]
    rw [if_neg c10, if_neg c10, if_neg hc, if_neg hc, cl5 (by omega), hH.ewo b hb]
    by_cases h1 : x2 < 1
    · rw [if_pos h1, wi_lo h1]; exact ⟨-102, wd, wo, rfl, rfl, hH⟩
    · rw [if_neg h1]
      by_cases h2 : x2 ≤ 9
      · obtain ⟨w, hw, hw1, hw2⟩ := rng (lo := 1) (hi := 9) h1 h2 (by decide) (by decide)
        rw [if_pos h2, wi_in h1 h2]
        simp only [Option.bind_some]
        rw [if_neg c10]
        exact ⟨_, _, _, rfl, rfl, hH.mono (two_upd hH.w ⟨w, hw, hw1, hw2⟩) hH.c hH.t⟩
      · rw [if_neg h2, wi_hi h2]; exact ⟨-102, wd, wo, rfl, rfl, hH⟩
theorem tc_set : ∀ n : Nat, n < 6 → ∀ t : Nat, t < 2 ^ n → ∀ a : Nat, a < n → (nI t ||| ((1 : Int32) <<< (nI a &&& 31))) = nI (nI t ||| ((1 : Int32) <<< (nI a &&& 31))).toNatClampNeg ∧ (nI t ||| ((1 : Int32) <<< (nI a &&& 31))).toNatClampNeg < 2 ^ n := by decide +kernel
theorem tc_clr : ∀ n : Nat, n < 6 → ∀ t : Nat, t < 2 ^ n → ∀ a : Nat, a < n → (nI t &&& (((1 : Int32) <<< (nI a &&& 31)) ^^^ (-1))) = nI (nI t &&& (((1 : Int32) <<< (nI a &&& 31)) ^^^ (-1))).toNatClampNeg ∧ (nI t &&& (((1 : Int32) <<< (nI a &&& 31)) ^^^ (-1))).toNatClampNeg < 2 ^ n := by decide +kernel
theorem tcOk_set {t : Int32} {a : Nat} (hn : n ≤ 5) (h : tcOk n t) (ha : a < n) : tcOk n (t ||| ((1 : Int32) <<< (nI a &&& 31))) := by
  obtain ⟨k, rfl, hk⟩ := h
  have := tc_set n (by omega) k hk a ha
  exact ⟨_, this.1, this.2⟩
theorem tcOk_clr {t : Int32} {a : Nat} (hn : n ≤ 5) (h : tcOk n t) (ha : a < n) : tcOk n (t &&& (((1 : Int32) <<< (nI a &&& 31)) ^^^ (-1))) := by
  obtain ⟨k, rfl, hk⟩ := h
  have := tc_clr n (by omega) k hk a ha
  exact ⟨_, this.1, this.2⟩
theorem q_touch (hH : HA n K su wi wd ch tc ki wo so wio co tb) (x1 x2 x3 : Int32) : ∃ (r : Int32) (tc' tb' : Nat → Int32), f_X11_touch x1 x2 x3 tc (nI n) = some (r, tc') ∧ f_X12_touch x1 x2 x3 (nI n) tb = some (r, tb') ∧ HA n K su wi wd ch tc' ki wo so wio co tb' := by
  have hn := hH.1
  rcases pk_ix x1 (n := n) (by omega) with h | h | ⟨a, ha, rfl⟩
  · exact ⟨-101, tc, tb, by rw [f_X11_touch, has_out (Or.inl h)]; rfl, by rw [f_X12_touch, isB_out hn (Or.inl h)]; rfl, hH⟩
  · exact ⟨-101, tc, tb, by rw [f_X11_touch, has_out (Or.inr h)]; rfl, by rw [f_X12_touch, isB_out hn (Or.inr h)]; rfl, hH⟩
  · rw [f_X11_touch, f_X12_touch, has_in ha (by omega), isB_in ha hn]
    simp only [Option.bind_some, bnd]
    rw [if_neg c10, if_neg c10]
    rcases pk_ix x2 (n := n) (by omega) with h | h | ⟨b, hb, rfl⟩
    · rw [has_out (Or.inl h), isB_out hn (Or.inl h)]; exact ⟨-101, tc, tb, rfl, rfl, hH⟩
    · rw [has_out (Or.inr h), isB_out hn (Or.inr h)]; exact ⟨-101, tc, tb, rfl, rfl, hH⟩
    · rw [has_in hb (by omega), isB_in hb hn]
      have hc : ¬ (nI b < 0 ∨ 5 ≤ (nI b).toNatClampNeg) := ckN (i := b) (by omega) (by decide)
      simp only [Option.bind_some]
      rw [if_neg c10, if_neg c10]
      by_cases he : nI a = nI b
      · rw [if_pos he, if_pos he]; exact ⟨-101, tc, tb, rfl, rfl, hH⟩
      · rw [if_neg he, if_neg he, if_neg hc, if_neg hc, cl5 (by omega), hH.etb b hb]
        by_cases h3 : x3 = 0
        · rw [if_pos h3, if_pos h3]
          exact ⟨_, _, _, rfl, rfl, hH.mono hH.w hH.c (two_upd hH.t (tcOk_clr hn (hH.t b hb).1 ha))⟩
        · rw [if_neg h3, if_neg h3]
          exact ⟨_, _, _, rfl, rfl, hH.mono hH.w hH.c (two_upd hH.t (tcOk_set hn (hH.t b hb).1 ha))⟩
end
