section
theorem cnt_mm {p : Nat → Bool} {m m' : Nat} (h : m ≤ m') : cnt p m ≤ cnt p m' := by
  induction m' with
  | zero => have : m = 0 := by omega
            subst this; exact Nat.le_refl _
  | succ m' ih =>
    by_cases hm : m = m' + 1
    · rw [hm]; exact Nat.le_refl _
    · have := ih (by omega)
      rw [cnt]; omega
/-- y is the least of those from lo to below hi that have P, or -2 -/
def LsR (P : Nat → Prop) (lo hi : Nat) (y : Int32) : Prop := (∃ j, lo ≤ j ∧ j < hi ∧ P j ∧ y = nI j ∧ ∀ j', lo ≤ j' → j' < j → ¬ P j') ∨ (y = -2 ∧ ∀ j, lo ≤ j → j < hi → ¬ P j)
theorem LsR_one {P : Nat → Prop} {lo hi : Nat} {y y' : Int32} (h : LsR P lo hi y) (h' : LsR P lo hi y') : y = y' := by
  rcases h with ⟨j, a1, a2, a3, a4, a5⟩ | ⟨a1, a2⟩
  · rcases h' with ⟨j', b1, b2, b3, b4, b5⟩ | ⟨b1, b2⟩
    · have : j = j' := by
        apply Classical.byContradiction
        intro hne
        rcases Nat.lt_or_gt_of_ne hne with h | h
        · exact b5 j a1 h a3
        · exact a5 j' b1 h b3
      rw [a4, b4, this]
    · exact absurd a3 (b2 j a1 a2)
  · rcases h' with ⟨j', b1, b2, b3, b4, b5⟩ | ⟨b1, b2⟩
    · exact absurd b3 (a2 j' b1 b2)
    · rw [a1, b1]
theorem nI_m2 {j : Nat} (h : j < 2 ^ 31) : ¬ nI j = -2 := by
  intro hq
  have := congrArg Int32.toInt hq
  rw [nI_toInt h] at this
  have h2 : (-2 : Int32).toInt = -2 := rfl
  rw [h2] at this
  omega
theorem LsR_up {P : Nat → Prop} {i : Nat} {y : Int32} (hi : i < 2 ^ 30) (h : LsR P 0 i y) : LsR P 0 (i + 1) (if bI (P i) = 0 then y else if y = -2 then nI i else y) := by
  by_cases hp : P i
  · rw [bI_t hp, if_neg (by decide)]
    rcases h with ⟨j, a1, a2, a3, a4, a5⟩ | ⟨a1, a2⟩
    · rw [if_neg (by rw [a4]; exact nI_m2 (by omega))]
      exact Or.inl ⟨j, a1, by omega, a3, a4, a5⟩
    · rw [if_pos a1]
      exact Or.inl ⟨i, by omega, by omega, hp, rfl, fun j' hj1 hj2 => a2 j' hj1 hj2⟩
  · rw [bI_f hp, if_pos rfl]
    rcases h with ⟨j, a1, a2, a3, a4, a5⟩ | ⟨a1, a2⟩
    · exact Or.inl ⟨j, a1, by omega, a3, a4, a5⟩
    · refine Or.inr ⟨a1, fun j h1 h2 => ?_⟩
      by_cases hji : j = i
      · rw [hji]; exact hp
      · exact a2 j h1 (by omega)
theorem LsR_dn {P : Nat → Prop} {c hi : Nat} {y : Int32} (hc : c < hi) (h : LsR P (c + 1) hi y) : LsR P c hi (if bI (P c) = 0 then y else nI c) := by
  by_cases hp : P c
  · rw [bI_t hp, if_neg (by decide)]
    exact Or.inl ⟨c, by omega, hc, hp, rfl, fun j' h1 h2 => by omega⟩
  · rw [bI_f hp, if_pos rfl]
    rcases h with ⟨j, a1, a2, a3, a4, a5⟩ | ⟨a1, a2⟩
    · refine Or.inl ⟨j, by omega, a2, a3, a4, fun j' h1 h2 => ?_⟩
      by_cases hjc : j' = c
      · rw [hjc]; exact hp
      · exact a5 j' (by omega) h2
    · refine Or.inr ⟨a1, fun j h1 h2 => ?_⟩
      by_cases hjc : j = c
      · rw [hjc]; exact hp
      · exact a2 j (by omega) h2
noncomputable def lsV (P : Nat → Prop) : Nat → Int32
  | 0 => -2
  | i + 1 => if bI (P i) = 0 then lsV P i else if lsV P i = -2 then nI i else lsV P i
theorem lsV_is (P : Nat → Prop) {i : Nat} (hi : i < 2 ^ 30) : LsR P 0 i (lsV P i) := by
  induction i with
  | zero => exact Or.inr ⟨rfl, fun j _ h => by omega⟩
  | succ i ih => rw [lsV]; exact LsR_up (by omega) (ih (by omega))
theorem lpD {S R : Type} (F : Nat → Int32 → S → Option R) (fin : S → R) (N : Nat) (I : Nat → S → Prop)
    (hstop : ∀ k st, I 0 st → F (k + 1) (-1) st = some (fin st))
    (hstep : ∀ k c st, c < N → I (c + 1) st → ∃ st', I c st' ∧ F (k + 1) (nI c) st = F k (nI c + (-1)) st') :
    ∀ (c k : Nat) (st : S), c ≤ N → c < k → I c st → ∃ st', I 0 st' ∧ F k (nI c + (-1)) st = some (fin st') := by
  intro c
  induction c with
  | zero =>
    intro k st _ hk hI
    obtain ⟨k, rfl⟩ : ∃ k', k = k' + 1 := ⟨k - 1, by omega⟩
    exact ⟨st, hI, hstop k st hI⟩
  | succ c ih =>
    intro k st hc hk hI
    obtain ⟨k, rfl⟩ : ∃ k', k = k' + 1 := ⟨k - 1, by omega⟩
    obtain ⟨st', h1, h2⟩ := hstep k c st (by omega) hI
    rw [pk_m1, h2]
    exact ih k st' (by omega) (by omega) h1
variable {n hc : Nat} {K : Nat → Nat} {su wi wd ch tc : Nat → Int32} {ki wo so wio co tb : Nat → Int32} {fa : Int32} {hb hr mb mr : Nat → Int32}
def tUp (tc : Nat → Int32) (a b : Nat) : Nat → Int32 := upd tc b (tc b ||| ((1 : Int32) <<< (nI a &&& 31)))
def toP (n : Nat) (K : Nat → Nat) (ch wd tc : Nat → Int32) (hc : Nat) (hb hr : Nat → Int32) (i : Nat) : Prop := i / 5 < n ∧ i % 5 < n ∧ i / 5 ≠ i % 5 ∧ ¬ TF tc (i / 5) (i % 5) ∧ AgA n K ch wd (tUp tc (i / 5) (i % 5)) hc hb hr
theorem cExpl (hn : n ≤ 5) (hV : Vd n K ch wd) (hE : HE n hc hb hr mb mr) {i : Nat} (hi : i < 25) (en : Nat → Int32) (g0 : Int32) (sl st tt : Nat → Int32) : ∃ (en' : Nat → Int32) (g' : Int32) (sl' st' tt' : Nat → Int32), f_X11_explainsHeard (nI (i / 5)) (nI (i % 5)) K ch tc wd en g0 sl st tt (nI n) hb hr (nI hc) = some (bI (toP n K ch wd tc hc hb hr i), en', g', sl', st', tt') := by
  have h1 : i / 5 < 5 := by omega
  have h2 : i % 5 < 5 := by omega
  rw [f_X11_explainsHeard]
  by_cases c1 : i / 5 < n
  · rw [has_in c1 (by omega)]
    simp only [Option.bind_some]
    rw [if_neg c10]
    by_cases c2 : i % 5 < n
    · rw [has_in c2 (by omega)]
      simp only [Option.bind_some]
      rw [if_neg c10]
      by_cases c3 : i / 5 = i % 5
      · rw [if_pos (by rw [c3]), bI_f (fun h => h.2.2.1 c3)]
        exact ⟨_, _, _, _, _, rfl⟩
      · rw [if_neg (fun h => c3 ((nI_eq (by omega) (by omega)).mp h)), f_X4_touches, if_neg (ckN (i := i % 5) (by omega) (by decide)), cl5 (i := i % 5) (by omega)]
        by_cases c4 : TF tc (i / 5) (i % 5)
        · have c4' := c4
          unfold TF at c4'
          rw [if_pos c4', bI_f (fun h => h.2.2.2.1 c4)]
          simp only [Option.bind_some]
          rw [if_neg c10]
          exact ⟨_, _, _, _, _, rfl⟩
        · have c4' := c4
          unfold TF at c4'
          rw [if_neg c4']
          simp only [Option.bind_some]
          obtain ⟨en1, tt1, a1, a2, a3⟩ := cTake (K := K) (ch := ch) (wd := wd) (tc := tc) hn en tt
          have e1 : f_X2_supposeTouch (nI (i / 5)) (nI (i % 5)) tt1 = some (tUp tt1 (i / 5) (i % 5)) := by
            rw [f_X2_supposeTouch, if_neg (ckN (i := i % 5) (by omega) (by decide)), cl5 (by omega)]
            rfl
          obtain ⟨sl4, st4, d1, d2, d3⟩ := cRunH (tc := tUp tc (i / 5) (i % 5)) hn hV a1 (tb := tUp tt1 (i / 5) (i % 5)) (fun j hj => by
            unfold tUp
            by_cases hjb : j = i % 5
            · rw [hjb, upd_eq, upd_eq, a2 _ c2]
            · rw [upd_ne hjb, upd_ne hjb]; exact a2 j hj) g0 sl st
          rw [if_pos trivial, a3]
          simp only [Option.bind_some]
          rw [e1]
          simp only [Option.bind_some]
          rw [d3]
          simp only [Option.bind_some]
          rw [cAgr hn hE d2]
          simp only [Option.bind_some]
          have := bI_01 (AgA n K ch wd (tUp tc (i / 5) (i % 5)) hc hb hr)
          rw [if_neg (fun h => h this), bI_congr (p := toP n K ch wd tc hc hb hr i) (q := AgA n K ch wd (tUp tc (i / 5) (i % 5)) hc hb hr) ⟨fun h => h.2.2.2.2, fun h => ⟨c1, c2, c3, c4, h⟩⟩]
          exact ⟨_, _, _, _, _, rfl⟩
    · rw [has_out (Or.inr ((nI_b (by omega) (by omega)).mpr (by omega))), bI_f (fun h => c2 h.2.1)]
      exact ⟨_, _, _, _, _, rfl⟩
  · rw [has_out (Or.inr ((nI_b (by omega) (by omega)).mpr (by omega))), bI_f (fun h => c1 h.1)]
    exact ⟨_, _, _, _, _, rfl⟩
noncomputable def pB (P : Nat → Prop) : Nat → Bool := fun i => bl (P i)
theorem cnt_bI {P : Nat → Prop} (i : Nat) : nI (cnt (pB P) (i + 1)) = if bI (P i) = 0 then nI (cnt (pB P) i) else nI (cnt (pB P) i + 1) := by
  rw [cnt]
  unfold pB
  by_cases hp : P i
  · rw [bI_t hp, if_neg (show ¬ (1 : Int32) = 0 by decide), bl_t hp]; rfl
  · rw [bI_f hp, if_pos rfl, bl_f hp]; rfl
noncomputable def thV (n : Nat) (K : Nat → Nat) (ch wd tc : Nat → Int32) (hc : Nat) (hb hr : Nat → Int32) (w : Nat) : Int32 := if w = 0 then (if bI (AgA n K ch wd tc hc hb hr) = 0 then nI (cnt (pB (toP n K ch wd tc hc hb hr)) 25) else nI (cnt (pB (toP n K ch wd tc hc hb hr)) 25 + 1)) else (if bI (AgA n K ch wd tc hc hb hr) = 0 then lsV (toP n K ch wd tc hc hb hr) 25 else -1)
theorem cTouched (h0 : 0 < n) (hn : n ≤ 5) (hV : Vd n K ch wd) (hE : HE n hc hb hr mb mr) {w : Nat} (hw : w ≤ 1) (en : Nat → Int32) (g0 : Int32) (sl st tt : Nat → Int32) : ∃ (en' : Nat → Int32) (g' : Int32) (sl' st' tt' : Nat → Int32), f_X11_touched (nI w) K ch tc wd en g0 sl st tt (nI n) hb hr (nI hc) = some (thV n K ch wd tc hc hb hr w, en', g', sl', st', tt') := by
  obtain ⟨en1, sl1, st1, tt1, a1, a2, a3⟩ := cRunAs (tc := tc) hn hV en g0 sl st tt
  have key : ∀ (l0 : Int32) (m0 : Nat), (l0 = -2 ∨ l0 = -1) → ∃ (y : Int32) (en2 : Nat → Int32) (g2 : Int32) (sl2 st2 tt2 : Nat → Int32), (y = if l0 = -2 then lsV (toP n K ch wd tc hc hb hr) 25 else l0) ∧ f_X11_touched_58 4096 (nI w) K ch tc wd (nI n) hb hr (nI hc) 0 l0 (nI m0) en1 (gH n K ch wd tc) sl1 st1 tt1 = some (nI 25, y, nI (m0 + cnt (pB (toP n K ch wd tc hc hb hr)) 25), en2, g2, sl2, st2, tt2) := by
    intro l0 m0 hl0
    obtain ⟨⟨y, z, en2, g2, sl2, st2, tt2⟩, ⟨c1, c2⟩, c4⟩ := lpU0 (fun k y (q : Int32 × Int32 × (Nat → Int32) × Int32 × (Nat → Int32) × (Nat → Int32) × (Nat → Int32)) => f_X11_touched_58 k (nI w) K ch tc wd (nI n) hb hr (nI hc) y q.1 q.2.1 q.2.2.1 q.2.2.2.1 q.2.2.2.2.1 q.2.2.2.2.2.1 q.2.2.2.2.2.2) (fun q => (nI 25, q.1, q.2.1, q.2.2.1, q.2.2.2.1, q.2.2.2.2.1, q.2.2.2.2.2.1, q.2.2.2.2.2.2)) 25
      (fun i q => (q.1 = if l0 = -2 then lsV (toP n K ch wd tc hc hb hr) i else l0) ∧ q.2.1 = nI (m0 + cnt (pB (toP n K ch wd tc hc hb hr)) i)) (l0, nI m0, en1, gH n K ch wd tc, sl1, st1, tt1) (by omega) ⟨by show l0 = _; split <;> rename_i h <;> first | exact h | rfl, rfl⟩
      (fun k q _ => by show f_X11_touched_58 (k + 1) _ _ _ _ _ _ _ _ _ _ _ _ _ _ _ _ _ = _; rw [f_X11_touched_58, if_pos (show (25 : Int32) ≤ nI 25 by decide)])
      (fun k i ⟨y, z, en2, g2, sl2, st2, tt2⟩ hi ⟨h1, h2⟩ => by
        have h1 : y = if l0 = -2 then lsV (toP n K ch wd tc hc hb hr) i else l0 := h1
        have h2 : z = nI (m0 + cnt (pB (toP n K ch wd tc hc hb hr)) i) := h2
        show ∃ st', _ ∧ f_X11_touched_58 (k + 1) _ _ _ _ _ _ _ _ _ _ _ _ _ _ _ _ _ = _
        have e5 : (5 : Int32) = nI 5 := rfl
        have ed : nI i / 5 = nI (i / 5) := by rw [e5]; exact pk_div (by omega) (by omega) (by omega)
        have em : nI i - nI i / 5 * 5 = nI (i % 5) := by rw [e5]; exact pk_rem (by omega) (by omega) (by omega)
        obtain ⟨en3, g3, sl3, st3, tt3, d1⟩ := cExpl (tc := tc) hn hV hE hi en2 g2 sl2 st2 tt2
        rw [f_X11_touched_58, if_neg (show ¬ (25 : Int32) ≤ nI i from le_f (n := 25) hi (by omega)), em, ed]
        show ∃ st', _ ∧ ((f_X11_explainsHeard (nI (i / 5)) (nI (i % 5)) K ch tc wd en2 g2 sl2 st2 tt2 (nI n) hb hr (nI hc)).bind _) = _
        rw [d1]
        simp only [Option.bind_some, bnd, nI_1]
        have hcn : m0 + cnt (pB (toP n K ch wd tc hc hb hr)) (i + 1) = if bl (toP n K ch wd tc hc hb hr i) = true then m0 + cnt (pB (toP n K ch wd tc hc hb hr)) i + 1 else m0 + cnt (pB (toP n K ch wd tc hc hb hr)) i := by
          rw [cnt]; unfold pB; cases bl (toP n K ch wd tc hc hb hr i) <;> simp <;> omega
        rcases bl_cases (toP n K ch wd tc hc hb hr i) with ⟨hp, hbp⟩ | ⟨hp, hbp⟩
        · rw [bI_t hp, if_neg c10]
          rw [hbp, if_pos rfl] at hcn
          by_cases cy : y = -2
          · rw [if_pos cy]
            refine ⟨(nI i, z + 1, en3, g3, sl3, st3, tt3), ⟨?_, ?_⟩, rfl⟩
            · show nI i = _
              by_cases cl : l0 = -2
              · rw [if_pos cl] at h1 ⊢
                rw [lsV, bI_t hp, if_neg c10, ← h1, if_pos cy]
              · rw [if_neg cl] at h1
                rw [h1] at cy; exact absurd cy cl
            · show z + 1 = _
              rw [hcn, h2, nI_1]
          · rw [if_neg cy]
            refine ⟨(y, z + 1, en3, g3, sl3, st3, tt3), ⟨?_, ?_⟩, rfl⟩
            · show y = _
              by_cases cl : l0 = -2
              · rw [if_pos cl] at h1 ⊢
                rw [lsV, bI_t hp, if_neg c10, ← h1, if_neg cy]
              · rw [if_neg cl] at h1 ⊢; exact h1
            · show z + 1 = _
              rw [hcn, h2, nI_1]
        · rw [bI_f hp, if_pos rfl]
          rw [hbp, if_neg (by decide)] at hcn
          refine ⟨(y, z, en3, g3, sl3, st3, tt3), ⟨?_, ?_⟩, rfl⟩
          · show y = _
            by_cases cl : l0 = -2
            · rw [if_pos cl] at h1 ⊢
              rw [lsV, bI_f hp, if_pos rfl]; exact h1
            · rw [if_neg cl] at h1 ⊢; exact h1
          · show z = _
            rw [hcn, h2])
    have c1 : y = if l0 = -2 then lsV (toP n K ch wd tc hc hb hr) 25 else l0 := c1
    have c2 : z = nI (m0 + cnt (pB (toP n K ch wd tc hc hb hr)) 25) := c2
    refine ⟨y, en2, g2, sl2, st2, tt2, c1, ?_⟩
    rw [← c2]
    exact c4
  have hz : ¬ nI n = 0 := nI_ne0 h0 (by omega)
  rw [f_X11_touched, if_neg (nI_pos (n := w) (by omega)), if_pos (show nI w ≤ 1 from (nI_b (a := w) (b := 1) (by omega) (by decide)).mpr hw), if_neg hz, a3]
  simp only [Option.bind_some]
  rw [cAgr hn hE a2]
  simp only [Option.bind_some]
  have hw01 : w = 0 ∨ w = 1 := by omega
  by_cases hA : bI (AgA n K ch wd tc hc hb hr) = 0
  · obtain ⟨y, en2, g2, sl2, st2, tt2, k1, k2⟩ := key (-2) 0 (Or.inl rfl)
    have k2' : f_X11_touched_58 4096 (nI w) K ch tc wd (nI n) hb hr (nI hc) 0 (-2) 0 en1 (gH n K ch wd tc) sl1 st1 tt1 = some (nI 25, y, nI (0 + cnt (pB (toP n K ch wd tc hc hb hr)) 25), en2, g2, sl2, st2, tt2) := k2
    rw [if_pos hA, k2', thV, if_pos hA, if_pos hA]
    rw [if_pos rfl] at k1
    simp only [Option.bind_some]
    rw [Nat.zero_add, ← k1]
    refine ⟨en2, g2, sl2, st2, tt2, ?_⟩
    clear k1
    rcases hw01 with rfl | rfl
    · rw [if_pos nL0, if_pos rfl]
    · rw [if_neg (show ¬ nI 1 = 0 by decide), if_neg (show ¬ (1 : Nat) = 0 by decide)]
  · obtain ⟨y, en2, g2, sl2, st2, tt2, k1, k2⟩ := key (-1) 1 (Or.inr rfl)
    have k2' : f_X11_touched_58 4096 (nI w) K ch tc wd (nI n) hb hr (nI hc) 0 (-1) 1 en1 (gH n K ch wd tc) sl1 st1 tt1 = some (nI 25, y, nI (1 + cnt (pB (toP n K ch wd tc hc hb hr)) 25), en2, g2, sl2, st2, tt2) := k2
    rw [if_neg hA, k2', thV, if_neg hA, if_neg hA]
    rw [if_neg (show ¬ (-1 : Int32) = -2 by decide)] at k1
    simp only [Option.bind_some]
    rw [Nat.add_comm 1, k1]
    refine ⟨en2, g2, sl2, st2, tt2, ?_⟩
    rcases hw01 with rfl | rfl
    · rw [if_pos nL0, if_pos rfl]
    · rw [if_neg (show ¬ nI 1 = 0 by decide), if_neg (show ¬ (1 : Nat) = 0 by decide)]
theorem HA.tc_ (hH : HA n K su wi wd ch tc ki wo so wio co tb) {a b : Nat} (ha : a < n) (hbn : b < n) : HA n K su wi wd ch (tUp tc a b) ki wo so wio co (tUp tb a b) := hH.mono hH.w hH.c (fun i hi => by
  unfold tUp
  by_cases hib : i = b
  · rw [hib, upd_eq, upd_eq, hH.etb b hbn]; exact ⟨tcOk_set hH.1 (hH.t b hbn).1 ha, rfl⟩
  · rw [upd_ne hib, upd_ne hib]; exact hH.t i hi)
theorem mTouched (h0 : 0 < n) (hH : HA n K su wi wd ch tc ki wo so wio co tb) (hE : HE n hc hb hr mb mr) {w : Nat} (hw : w ≤ 1) (ms : Nat → Int32) : ∃ ms' : Nat → Int32, f_X12_touchedNow (nI w) (nI n) co (nI hc) mb mr ki ms tb wo = some (thV n K ch wd tc hc hb hr w, ms', tb) := by
  have hn := hH.1
  have hmm : ∀ c, c ≤ 25 → cnt (pB (toP n K ch wd tc hc hb hr)) c ≤ cnt (pB (toP n K ch wd tc hc hb hr)) 25 := fun c h => cnt_mm h
  obtain ⟨⟨y, z, ms2⟩, ⟨c1, c2⟩, c4⟩ := lpD (fun k y (q : Int32 × Int32 × (Nat → Int32)) => f_X12_touchedNow_9 k (nI w) (nI n) co (nI hc) mb mr ki wo y q.1 q.2.1 q.2.2 tb) (fun q => (-1, q.1, q.2.1, q.2.2, tb)) 25
    (fun c q => LsR (toP n K ch wd tc hc hb hr) c 25 q.1 ∧ q.2.1 = nI (cnt (pB (toP n K ch wd tc hc hb hr)) 25 - cnt (pB (toP n K ch wd tc hc hb hr)) c))
    (fun k q _ => by show f_X12_touchedNow_9 (k + 1) _ _ _ _ _ _ _ _ _ _ _ _ _ = _; rw [f_X12_touchedNow_9, if_pos (show (-1 : Int32) < 0 by decide)])
    (fun k c ⟨y, z, ms2⟩ hc25 ⟨h1, h2⟩ => by
      have h1 : LsR (toP n K ch wd tc hc hb hr) (c + 1) 25 y := h1
      have h2 : z = nI (cnt (pB (toP n K ch wd tc hc hb hr)) 25 - cnt (pB (toP n K ch wd tc hc hb hr)) (c + 1)) := h2
      show ∃ st', _ ∧ f_X12_touchedNow_9 (k + 1) _ _ _ _ _ _ _ _ _ _ _ _ _ = _
      have e5 : (5 : Int32) = nI 5 := rfl
      have ed : nI c / 5 = nI (c / 5) := by rw [e5]; exact pk_div (by omega) (by omega) (by omega)
      have em : nI c - nI c / 5 * 5 = nI (c % 5) := by rw [e5]; exact pk_rem (by omega) (by omega) (by omega)
      rw [ed] at em
      have b1 : c / 5 < 5 := by omega
      have b2 : c % 5 < 5 := by omega
      have hcm := hmm (c + 1) (by omega)
      have hcs : cnt (pB (toP n K ch wd tc hc hb hr)) (c + 1) = cnt (pB (toP n K ch wd tc hc hb hr)) c + if bl (toP n K ch wd tc hc hb hr c) = true then 1 else 0 := rfl
      have hno : ¬ toP n K ch wd tc hc hb hr c → ∃ st' : Int32 × Int32 × (Nat → Int32), (LsR (toP n K ch wd tc hc hb hr) c 25 st'.1 ∧ st'.2.1 = nI (cnt (pB (toP n K ch wd tc hc hb hr)) 25 - cnt (pB (toP n K ch wd tc hc hb hr)) c)) ∧ st' = (y, z + 0, ms2) := by
        intro hp
        refine ⟨_, ⟨?_, ?_⟩, rfl⟩
        · have := LsR_dn (c := c) hc25 h1
          rw [bI_f hp, if_pos rfl] at this
          exact this
        · show z + 0 = _
          rw [bl_f hp, if_neg (by decide)] at hcs
          rw [h2, hcs]
          simp
      rw [f_X12_touchedNow_9, if_neg (nI_pos (n := c) (by omega))]
      simp only [bnd, ed, em]
      by_cases c1 : c / 5 < n
      · rw [isB_in c1 hn]
        simp only [Option.bind_some]
        rw [if_neg c10]
        by_cases c2 : c % 5 < n
        · rw [isB_in c2 hn]
          simp only [Option.bind_some]
          rw [if_neg c10]
          by_cases c3 : c / 5 = c % 5
          · rw [if_pos (by rw [c3])]
            obtain ⟨q, hq1, rfl⟩ := hno (fun h => h.2.2.1 c3)
            exact ⟨_, hq1, rfl⟩
          · rw [if_neg (fun h => c3 ((nI_eq (by omega) (by omega)).mp h)), if_neg (ckN (i := c % 5) (by omega) (by decide)), cl5 (i := c % 5) (by omega), hH.etb _ c2]
            by_cases c4 : TF tc (c / 5) (c % 5)
            · rw [has_t c4]
              simp only [Option.bind_some]
              rw [if_neg c10]
              obtain ⟨q, hq1, rfl⟩ := hno (fun h => h.2.2.2.1 c4)
              exact ⟨_, hq1, rfl⟩
            · rw [has_f c4]
              simp only [Option.bind_some]
              obtain ⟨ms3, d1⟩ := mHeard h0 (hH.tc_ c1 c2) hE ms2
              have e1 : f_X12_isTouch (nI (c / 5)) (nI (c % 5)) (nI n) co (nI hc) mb mr ki ms2 tb wo = some (bI (toP n K ch wd tc hc hb hr c), ms3, tb) := by
                rw [f_X12_isTouch, if_neg (ckN (i := c % 5) (by omega) (by decide)), cl5 (i := c % 5) (by omega)]
                simp only [bnd]
                have d1' : f_X12_isHeard (-1) (nI n) co (nI hc) mb mr ki ms2 (upd tb (c % 5) (tb (c % 5) ||| ((1 : Int32) <<< (nI (c / 5) &&& 31)))) wo = some (bI (AgA n K ch wd (tUp tc (c / 5) (c % 5)) hc hb hr), ms3) := d1
                rw [d1']
                simp only [Option.bind_some]
                have := bI_01 (AgA n K ch wd (tUp tc (c / 5) (c % 5)) hc hb hr)
                rw [if_neg (fun h => h this), upd_back, bI_congr (p := toP n K ch wd tc hc hb hr c) (q := AgA n K ch wd (tUp tc (c / 5) (c % 5)) hc hb hr) ⟨fun h => h.2.2.2.2, fun h => ⟨c1, c2, c3, c4, h⟩⟩]
              rw [if_pos trivial, e1]
              simp only [Option.bind_some]
              by_cases hp : toP n K ch wd tc hc hb hr c
              · rw [bI_t hp, if_neg c10]
                refine ⟨(nI c, z + 1, ms3), ⟨?_, ?_⟩, rfl⟩
                · have := LsR_dn (c := c) hc25 h1
                  rw [bI_t hp, if_neg c10] at this
                  exact this
                · show z + 1 = _
                  rw [bl_t hp, if_pos rfl] at hcs
                  rw [h2, nI_1]
                  exact congrArg nI (by omega)
              · rw [bI_f hp, if_pos rfl]
                obtain ⟨q, hq1, hq2⟩ := hno hp
                subst hq2
                exact ⟨(y, z + 0, ms3), hq1, rfl⟩
        · rw [isB_out hn (Or.inr ((nI_b (by omega) (by omega)).mpr (by omega)))]
          simp only [Option.bind_some]
          rw [if_pos trivial]
          obtain ⟨q, hq1, rfl⟩ := hno (fun h => c2 h.2.1)
          exact ⟨_, hq1, rfl⟩
      · rw [isB_out hn (Or.inr ((nI_b (by omega) (by omega)).mpr (by omega)))]
        simp only [Option.bind_some]
        rw [if_pos trivial]
        obtain ⟨q, hq1, rfl⟩ := hno (fun h => c1 h.1)
        exact ⟨_, hq1, rfl⟩) 25 4096 (-2, 0, ms) (Nat.le_refl _) (by omega) ⟨Or.inr ⟨rfl, fun j h1 h2 => by omega⟩, by show (0 : Int32) = _; rw [Nat.sub_self]; rfl⟩
  have c1 : y = lsV (toP n K ch wd tc hc hb hr) 25 := LsR_one c1 (lsV_is _ (by omega))
  have c2 : z = nI (cnt (pB (toP n K ch wd tc hc hb hr)) 25) := c2
  have c4' : f_X12_touchedNow_9 4096 (nI w) (nI n) co (nI hc) mb mr ki wo 24 (-2) 0 ms tb = some (-1, y, z, ms2, tb) := c4
  obtain ⟨ms3, d1⟩ := mHeard h0 hH hE ms2
  refine ⟨ms3, ?_⟩
  rw [f_X12_touchedNow, c4']
  simp only [Option.bind_some]
  rw [d1]
  simp only [Option.bind_some]
  rw [thV, ← c1, c2]
  clear c1 c2 c4 c4'
  have hw01 : w = 0 ∨ w = 1 := by omega
  by_cases hA : bI (AgA n K ch wd tc hc hb hr) = 0
  · rw [if_pos hA, if_pos hA, if_pos hA, if_pos hA]
    rcases hw01 with rfl | rfl
    · rw [if_pos nL0, if_pos rfl]; simp
    · rw [if_neg (show ¬ nI 1 = 0 by decide), if_neg (show ¬ (1 : Nat) = 0 by decide)]
  · rw [if_neg hA, if_neg hA, if_neg hA, if_neg hA]
    rcases hw01 with rfl | rfl
    · rw [if_pos nL0, if_pos rfl, nI_1]
    · rw [if_neg (show ¬ nI 1 = 0 by decide), if_neg (show ¬ (1 : Nat) = 0 by decide)]
theorem q_touched (hH : HA n K su wi wd ch tc ki wo so wio co tb) (hE : HE n hc hb hr mb mr) (x : Int32) (en : Nat → Int32) (g0 : Int32) (sl st tt ms : Nat → Int32) : ∃ (r : Int32) (en' : Nat → Int32) (g' : Int32) (sl' st' tt' ms' : Nat → Int32), f_X11_touched x K ch tc wd en g0 sl st tt (nI n) hb hr (nI hc) = some (r, en', g', sl', st', tt') ∧ f_X12_touched x (nI n) co (nI hc) mb mr ki ms tb wo = some (r, ms', tb) := by
  have hn := hH.1
  by_cases h1 : x < 0
  · refine ⟨-102, en, g0, sl, st, tt, ms, ?_, ?_⟩
    · rw [f_X11_touched, if_pos h1]
    · rw [f_X12_touched, wi_lo h1]; rfl
  · by_cases h2 : x ≤ 1
    · by_cases h0 : n = 0
      · subst h0
        refine ⟨-103, en, g0, sl, st, tt, ms, ?_, ?_⟩
        · rw [f_X11_touched, if_neg h1, if_pos h2]; rfl
        · rw [f_X12_touched, wi_in h1 h2]; rfl
      · obtain ⟨w, rfl, _, hw⟩ := rng (lo := 0) (hi := 1) h1 h2 (by decide) (by decide)
        obtain ⟨en', g', sl', st', tt', hc⟩ := cTouched (tc := tc) (by omega) hn hH.V hE hw en g0 sl st tt
        obtain ⟨ms', hm⟩ := mTouched (by omega) hH hE hw ms
        refine ⟨_, en', g', sl', st', tt', ms', hc, ?_⟩
        rw [f_X12_touched, wi_in h1 h2]
        simp only [Option.bind_some]
        rw [if_neg c10, if_neg (nI_ne0 (by omega) (by omega)), hm]
        rfl
    · refine ⟨-102, en, g0, sl, st, tt, ms, ?_, ?_⟩
      · rw [f_X11_touched, if_neg h1, if_neg h2]
      · rw [f_X12_touched, wi_hi h2]; rfl
end
