section
variable {n : Nat} {e : Nat → Nat}
/-- the least of a stop and of those who touch, below m -/
theorem sbt_20 (hn : n ≤ 5) {tb st : Nat → Int32} {d : Nat → Nat} {b : Nat} (hb : b < n) (hd : ∀ i, i < n → d i < 1000) (hst : ∀ i, i < n → st i = nI (d i)) (x0 : Nat) (hx0 : x0 < 1000) : ∃ x : Nat, (x ≤ x0 ∧ (x = x0 ∨ ∃ a, a < n ∧ TF tb a b ∧ x = d a + 1) ∧ ∀ a, a < n → TF tb a b → x ≤ d a + 1) ∧ f_X2_stopByTouch_20 4096 (nI b) (nI n) st tb 0 (nI x0) = some (nI n, nI x) := by
  obtain ⟨x', ⟨x, h1, h2, h3, h4⟩, h5⟩ := lpU0 (fun k y x => f_X2_stopByTouch_20 k (nI b) (nI n) st tb y x) (fun x => (nI n, x)) n
    (fun i x' => ∃ x : Nat, x' = nI x ∧ x ≤ x0 ∧ (x = x0 ∨ ∃ a, a < n ∧ TF tb a b ∧ x = d a + 1) ∧ ∀ a, a < i → TF tb a b → x ≤ d a + 1) (nI x0) (by omega)
    ⟨x0, rfl, Nat.le_refl _, Or.inl rfl, fun a ha => by omega⟩
    (fun k st _ => by show f_X2_stopByTouch_20 (k + 1) _ _ _ _ _ _ = _; rw [f_X2_stopByTouch_20, if_pos (le_t n)])
    (fun k i x' hi ⟨x, g1, g2, g3, g4⟩ => by
      show ∃ st', _ ∧ f_X2_stopByTouch_20 (k + 1) _ _ _ _ _ _ = _
      rw [f_X2_stopByTouch_20, if_neg (le_f hi (by omega)), if_neg (ckN (i := b) (by omega) (by decide)), cl5 (i := b) (by omega)]
      simp only [bnd, nI_1]
      have hdi := hd i hi
      by_cases hT : TF tb i b
      · have hT' := hT
        unfold TF at hT'
        rw [if_pos hT', if_neg (ckN (i := i) (by omega) (by decide)), cl5 (i := i) (by omega), hst i hi, nI_1, g1]
        by_cases hl : d i + 1 < x
        · rw [if_pos ((nI_ltI (by omega) (by omega)).mpr hl)]
          refine ⟨_, ⟨d i + 1, rfl, by omega, Or.inr ⟨i, hi, hT, rfl⟩, fun a ha ht => ?_⟩, rfl⟩
          by_cases hai : a = i
          · rw [hai]; exact Nat.le_refl _
          · have := g4 a (by omega) ht; omega
        · rw [if_neg (fun h => hl ((nI_ltI (by omega) (by omega)).mp h))]
          refine ⟨_, ⟨x, rfl, g2, g3, fun a ha ht => ?_⟩, rfl⟩
          by_cases hai : a = i
          · rw [hai]; omega
          · exact g4 a (by omega) ht
      · have hT' := hT
        unfold TF at hT'
        rw [if_neg hT']
        refine ⟨_, ⟨x, g1, g2, g3, fun a ha ht => ?_⟩, rfl⟩
        by_cases hai : a = i
        · rw [hai] at ht; exact absurd ht hT
        · exact g4 a (by omega) ht)
  subst h1
  exact ⟨x, ⟨h2, h3, h4⟩, h5⟩
theorem TF_0 {tb : Nat → Int32} {a b : Nat} (h : tb b = 0) : ¬ TF tb a b := by
  unfold TF
  rw [h]
  intro hq
  rw [Int32.zero_shiftRight] at hq
  simp at hq
theorem sbt (hn : n ≤ 5) {tb st : Nat → Int32} {d : Nat → Nat} {b : Nat} (hb : b < n) (hd : ∀ i, i < n → d i < 1000) (hst : ∀ i, i < n → st i = nI (d i)) : ∃ x : Nat, (x ≤ d b ∧ (x = d b ∨ ∃ a, a < n ∧ TF tb a b ∧ x = d a + 1) ∧ ∀ a, a < n → TF tb a b → x ≤ d a + 1) ∧ f_X2_stopByTouch (nI b) (nI n) st tb = some (nI x) := by
  rw [f_X2_stopByTouch, if_neg (ckN (i := b) (by omega) (by decide)), cl5 (i := b) (by omega)]
  simp only [bnd]
  by_cases h0 : tb b = 0
  · rw [if_pos h0, hst b hb]
    exact ⟨d b, ⟨Nat.le_refl _, Or.inl rfl, fun a _ h => absurd h (TF_0 h0)⟩, rfl⟩
  · rw [if_neg h0, hst b hb]
    obtain ⟨x, h1, h2⟩ := sbt_20 hn (tb := tb) hb hd hst (d b) (hd b hb)
    rw [h2]
    exact ⟨x, h1, rfl⟩
/-- the class's first loop -/
theorem fs_2 (hn : n ≤ 5) {en tb : Nat → Int32} (he : ∀ i, i < n → en i = nI (e i)) (st : Nat → Int32) : ∃ st', (∀ i, i < n → st' i = nI (e i)) ∧ f_X2_findStops_2 4096 en (nI n) tb 0 st = some (nI n, st') := by
  obtain ⟨st', h1, h2⟩ := lpU0 (fun k y st => f_X2_findStops_2 k en (nI n) tb y st) (fun st => (nI n, st)) n (fun i st => ∀ j, j < i → st j = nI (e j)) st (by omega) (fun j hj => by omega)
    (fun k st _ => by show f_X2_findStops_2 (k + 1) _ _ _ _ _ = _; rw [f_X2_findStops_2, if_pos (le_t n)])
    (fun k i st hi hI => by
      refine ⟨upd st i (nI (e i)), fun j hj => ?_, ?_⟩
      · by_cases hji : j = i
        · rw [hji, upd_eq]
        · rw [upd_ne hji]; exact hI j (by omega)
      · show f_X2_findStops_2 (k + 1) _ _ _ _ _ = _
        rw [f_X2_findStops_2, if_neg (le_f hi (by omega)), if_neg (ckN (by omega) (by decide)), cl5 (by omega)]
        simp only [bnd, nI_1, he i hi])
  exact ⟨st', h1, h2⟩
/-- one round of the class: heights d0 become d1 -/
theorem fs_54 (hn : n ≤ 5) {en tb : Nat → Int32} {d0 : Nat → Nat} (r : Nat) (y2 : Int32) (hb : ∀ i, i < n → e i < 1000) (st : Nat → Int32) (hst : ∀ i, i < n → st i = nI (d0 i)) (hl : Low n e (TF tb) d0) (hf : Fin_ n e (TF tb) r d0) :
    ∃ (st' : Nat → Int32) (c : Int32) (d1 : Nat → Nat), ((∀ i, i < n → st' i = nI (d1 i)) ∧ Low n e (TF tb) d1 ∧ Fin_ n e (TF tb) (r + 1) d1 ∧ (c = 0 → ∀ i, i < n → d1 i = DD n e (TF tb) i)) ∧ f_X2_findStops_54 4096 en (nI n) tb 0 0 y2 st = some (nI n, c, y2, st') := by
  obtain ⟨⟨c, st'⟩, ⟨d1, h1, h2, h3, h4, h5, h6⟩, h7⟩ := lpU0 (fun k y (q : Int32 × (Nat → Int32)) => f_X2_findStops_54 k en (nI n) tb y q.1 y2 q.2) (fun q => (nI n, q.1, y2, q.2)) n
    (fun i q => ∃ d1 : Nat → Nat, (∀ j, j < n → q.2 j = nI (d1 j)) ∧ Low n e (TF tb) d1 ∧ (∀ j, j < n → d1 j ≤ d0 j) ∧ (∀ b, b < i → ∀ a, a < n → TF tb a b → rk n (DD n e (TF tb)) a ≤ r → d1 b ≤ DD n e (TF tb) a + 1) ∧ (q.1 = 0 ∨ q.1 = 1) ∧ (q.1 = 0 → (∀ j, j < n → d1 j = d0 j) ∧ ∀ b, b < i → ∀ a, a < n → TF tb a b → d0 b ≤ d0 a + 1)) (0, st) (by omega)
    ⟨d0, hst, hl, fun _ _ => Nat.le_refl _, fun b hb => by omega, Or.inl rfl, fun _ => ⟨fun _ _ => rfl, fun b hb => by omega⟩⟩
    (fun k q _ => by show f_X2_findStops_54 (k + 1) _ _ _ _ _ _ _ = _; rw [f_X2_findStops_54, if_pos (le_t n)])
    (fun k i q hi ⟨d1, g1, g2, g3, g4, g5, g6⟩ => by
      show ∃ st', _ ∧ f_X2_findStops_54 (k + 1) _ _ _ _ _ _ _ = _
      have hd : ∀ j, j < n → d1 j < 1000 := fun j hj => Nat.lt_of_le_of_lt (g2 j hj).2 (hb j hj)
      obtain ⟨x, ⟨x1, x2, x3⟩, hx⟩ := sbt hn (tb := tb) hi hd g1
      have hdi := hd i hi
      rw [f_X2_findStops_54, if_neg (le_f hi (by omega)), hx]
      simp only [Option.bind_some, bnd, nI_1]
      rw [if_neg (ckN (i := i) (by omega) (by decide)), cl5 (i := i) (by omega), g1 i hi]
      have hlow : Low n e (TF tb) (fun j => if j = i then x else d1 j) := by
        intro j hj
        show DD n e (TF tb) j ≤ (if j = i then x else d1 j) ∧ (if j = i then x else d1 j) ≤ e j
        split
        · rename_i hji
          rw [hji]
          have := (g2 i hi).2
          refine ⟨?_, by omega⟩
          rcases x2 with x2 | ⟨a, ha, hT, x2⟩
          · rw [x2]; exact (g2 i hi).1
          · have := (DD_is n e (TF tb)).1.2 i hi a ha hT
            have := (g2 a ha).1
            omega
        · exact g2 j hj
      have hcov : ∀ b, b < i + 1 → ∀ a, a < n → TF tb a b → rk n (DD n e (TF tb)) a ≤ r → (if b = i then x else d1 b) ≤ DD n e (TF tb) a + 1 := by
        intro b hb' a ha hT hr
        split
        · rename_i hbi
          rw [hbi] at hT
          have := x3 a ha hT
          have := hf a ha hr
          have := g3 a ha
          omega
        · exact g4 b (by omega) a ha hT hr
      by_cases hle : d1 i ≤ x
      · rw [if_pos ((nI_b (by omega) (by omega)).mpr hle)]
        have hxe : x = d1 i := by omega
        refine ⟨(q.1 ||| 0, upd q.2 i (nI x)), ⟨fun j => if j = i then x else d1 j, fun j hj => ?_, hlow, fun j hj => ?_, hcov, ?_, fun hq => ?_⟩, rfl⟩
        · by_cases hji : j = i
          · rw [hji]; show upd q.2 i (nI x) i = nI (if i = i then x else d1 i); rw [upd_eq]; simp
          · show upd q.2 i (nI x) j = nI (if j = i then x else d1 j); rw [upd_ne hji, if_neg hji]; exact g1 j hj
        · show (if j = i then x else d1 j) ≤ d0 j
          split
          · rename_i hji; rw [hji, hxe]; exact g3 i hi
          · exact g3 j hj
        · show q.1 ||| 0 = 0 ∨ q.1 ||| 0 = 1; rcases g5 with h | h <;> rw [h] <;> decide
        · have hq0 : q.1 = 0 := by
            rcases g5 with h | h
            · exact h
            · exfalso; revert hq; show ¬ (q.1 ||| 0 = 0); rw [h]; decide
          obtain ⟨k1, k2⟩ := g6 hq0
          refine ⟨fun j hj => ?_, fun b hb' a ha hT => ?_⟩
          · show (if j = i then x else d1 j) = d0 j
            split
            · rename_i hji; rw [hji, hxe]; exact k1 i hi
            · exact k1 j hj
          · by_cases hbi : b = i
            · rw [hbi] at hT ⊢
              have := x3 a ha hT
              rw [← k1 i hi, ← k1 a ha, ← hxe]
              exact this
            · exact k2 b (by omega) a ha hT
      · rw [if_neg (fun h => hle ((nI_b (by omega) (by omega)).mp h))]
        refine ⟨(q.1 ||| 1, upd q.2 i (nI x)), ⟨fun j => if j = i then x else d1 j, fun j hj => ?_, hlow, fun j hj => ?_, hcov, ?_, fun hq => ?_⟩, rfl⟩
        · by_cases hji : j = i
          · rw [hji]; show upd q.2 i (nI x) i = nI (if i = i then x else d1 i); rw [upd_eq]; simp
          · show upd q.2 i (nI x) j = nI (if j = i then x else d1 j); rw [upd_ne hji, if_neg hji]; exact g1 j hj
        · show (if j = i then x else d1 j) ≤ d0 j
          split
          · rename_i hji; rw [hji]; have := g3 i hi; omega
          · exact g3 j hj
        · show q.1 ||| 1 = 0 ∨ q.1 ||| 1 = 1; rcases g5 with h | h <;> rw [h] <;> decide
        · exfalso
          revert hq
          show ¬ (q.1 ||| 1 = 0)
          rcases g5 with h | h <;> rw [h] <;> decide)
  refine ⟨st', c, d1, ⟨h1, h2, fin_step h2 (fun b hb a ha => h4 b hb a ha), fun hc i hi => ?_⟩, h7⟩
  obtain ⟨k1, k2⟩ := h6 hc
  rw [k1 i hi]
  exact fix_all hl k2 i hi
/-- all rounds of the class -/
theorem fs_35 (hn : n ≤ 5) {en tb : Nat → Int32} (hb : ∀ i, i < n → e i < 1000) : ∀ (m k r : Nat) (c : Int32) (st : Nat → Int32) (d : Nat → Nat), n - (r + 1) = m → m < k → r ≤ 5 → (∀ i, i < n → st i = nI (d i)) → Low n e (TF tb) d → Fin_ n e (TF tb) r d → (c = 0 → ∀ i, i < n → d i = DD n e (TF tb) i) → ∃ (st' : Nat → Int32) (y c' : Int32), (∀ i, i < n → st' i = nI (DD n e (TF tb) i)) ∧ f_X2_findStops_35 k en (nI n) tb (nI (r + 1)) c st = some (y, c', st') := by
  intro m
  induction m with
  | zero =>
    intro k r c st d hm hk hr5 hst hl hf hc
    obtain ⟨k, rfl⟩ : ∃ k', k = k' + 1 := ⟨k - 1, by omega⟩
    have hr : n ≤ r + 1 := by omega
    rw [f_X2_findStops_35, if_pos ((nI_b (by omega) (by omega)).mpr hr)]
    exact ⟨st, _, _, fun i hi => by rw [hst i hi, fin_all hl hr hf i hi], rfl⟩
  | succ m ih =>
    intro k r c st d hm hk hr5 hst hl hf hc
    obtain ⟨k, rfl⟩ : ∃ k', k = k' + 1 := ⟨k - 1, by omega⟩
    rw [f_X2_findStops_35, if_neg (le_f (by omega) (by omega))]
    by_cases h0 : c = 0
    · rw [if_pos h0]
      exact ⟨st, _, _, fun i hi => by rw [hst i hi, hc h0 i hi], rfl⟩
    · rw [if_neg h0]
      obtain ⟨st1, c1, d1, ⟨h1, h2, h3, h4⟩, h5⟩ := fs_54 hn (en := en) (tb := tb) (d0 := d) r (nI (r + 1)) hb st hst hl hf
      rw [h5]
      simp only [Option.bind_some, bnd, nI_1]
      exact ih k (r + 1) c1 st1 d1 (by omega) (by omega) (by omega) h1 h2 h3 h4
theorem fs (hn : n ≤ 5) {en tb : Nat → Int32} (hb : ∀ i, i < n → e i < 1000) (he : ∀ i, i < n → en i = nI (e i)) (st : Nat → Int32) : ∃ st', (∀ i, i < n → st' i = nI (DD n e (TF tb) i)) ∧ f_X2_findStops en (nI n) st tb = some st' := by
  obtain ⟨s1, h1, h2⟩ := fs_2 hn (tb := tb) he st
  obtain ⟨s2, y, c, h3, h4⟩ := fs_35 hn (en := en) (tb := tb) hb (n - (0 + 1)) 4096 0 1 s1 e rfl (by omega) (by omega) h1 (low_e n e _) (fin_0 (low_e n e _)) (fun h => absurd h (by decide))
  refine ⟨s2, h3, ?_⟩
  rw [f_X2_findStops, h2]
  show (f_X2_findStops_35 4096 en (nI n) tb 1 1 s1).bind _ = _
  have h4' : f_X2_findStops_35 4096 en (nI n) tb 1 1 s1 = some (y, c, s2) := h4
  rw [h4']
  rfl
end
