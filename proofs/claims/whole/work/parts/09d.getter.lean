section
/-- g is alone second, behind one alone first -/
def isG (n : Nat) (s : Nat → Nat) (g : Nat) : Prop := g < n ∧ ∃ f, f < n ∧ f ≠ g ∧ (∀ j, j < n → j ≠ f → s f < s j) ∧ ∀ j, j < n → j ≠ f → j ≠ g → s g < s j
theorem isG_one {n : Nat} {s : Nat → Nat} {g g' : Nat} (h : isG n s g) (h' : isG n s g') : g = g' := by
  obtain ⟨h0, f, h1, h2, h3, h4⟩ := h
  obtain ⟨k0, f', k1, k2, k3, k4⟩ := h'
  have hf : f = f' := by
    apply Classical.byContradiction
    intro hne
    have a1 := h3 f' k1 (fun h => hne h.symm)
    have a2 := k3 f h1 hne
    omega
  subst hf
  apply Classical.byContradiction
  intro hne
  have a1 := h4 g' k0 (fun h => k2 h.symm) (fun h => hne h.symm)
  have a2 := k4 g h0 (fun h => h2 h.symm) hne
  omega
theorem isG_congr {n : Nat} {s s' : Nat → Nat} (h : ∀ j, j < n → s j = s' j) {g : Nat} (hg : isG n s g) : isG n s' g := by
  obtain ⟨h0, f, h1, h2, h3, h4⟩ := hg
  exact ⟨h0, f, h1, h2, fun j hj hn => by rw [← h f h1, ← h j hj]; exact h3 j hj hn, fun j hj hn hn2 => by rw [← h g h0, ← h j hj]; exact h4 j hj hn hn2⟩
noncomputable def gI (n : Nat) (s : Nat → Nat) : Int32 := (Classical.propDecidable (∃ g, isG n s g)).casesOn (fun _ => -1) (fun h => nI (Classical.choose h))
theorem gI_pos {n : Nat} {s : Nat → Nat} {g : Nat} (h : isG n s g) : gI n s = nI g := by
  unfold gI
  cases Classical.propDecidable (∃ g, isG n s g) with
  | isFalse hn => exact absurd ⟨g, h⟩ hn
  | isTrue hp =>
    show nI (Classical.choose hp) = nI g
    rw [isG_one (Classical.choose_spec hp) h]
theorem gI_neg {n : Nat} {s : Nat → Nat} (h : ¬ ∃ g, isG n s g) : gI n s = -1 := by
  unfold gI
  cases Classical.propDecidable (∃ g, isG n s g) with
  | isFalse hn => rfl
  | isTrue hp => exact absurd hp h
theorem gI_cases (n : Nat) (s : Nat → Nat) : (∃ g, isG n s g ∧ gI n s = nI g) ∨ ((¬ ∃ g, isG n s g) ∧ gI n s = -1) := by
  by_cases h : ∃ g, isG n s g
  · obtain ⟨g, hg⟩ := h
    exact Or.inl ⟨g, hg, gI_pos hg⟩
  · exact Or.inr ⟨h, gI_neg h⟩
theorem gI_congr {n : Nat} {s s' : Nat → Nat} (h : ∀ j, j < n → s j = s' j) : gI n s = gI n s' := by
  rcases gI_cases n s with ⟨g, h1, h2⟩ | ⟨h1, h2⟩
  · rw [h2, gI_pos (isG_congr h h1)]
  · rw [h2, gI_neg (fun ⟨g, hg⟩ => h1 ⟨g, isG_congr (fun j hj => (h j hj).symm) hg⟩)]
theorem nI_m1 {j : Nat} (h : j < 2 ^ 31) : ¬ nI j = -1 := by
  intro hq
  have := congrArg Int32.toInt hq
  rw [nI_toInt h] at this
  have h2 : (-1 : Int32).toInt = -1 := rfl
  rw [h2] at this
  omega
/-- a marks who alone has v below i -/
def Al (s : Nat → Nat) (i v : Nat) (a : Int32) : Prop := (∃ j, j < i ∧ a = nI j ∧ s j = v ∧ ∀ j', j' < i → s j' = v → j' = j) ∨ (a = -1 ∧ ∀ j, j < i → s j = v → ∃ j', j' < i ∧ j' ≠ j ∧ s j' = v)
theorem Al_ext {s : Nat → Nat} {i v : Nat} {a : Int32} (h : Al s i v a) (hne : s i ≠ v) : Al s (i + 1) v a := by
  rcases h with ⟨j, h1, h2, h3, h4⟩ | ⟨h1, h2⟩
  · refine Or.inl ⟨j, by omega, h2, h3, fun j' hj' he => ?_⟩
    by_cases hji : j' = i
    · rw [hji] at he; exact absurd he hne
    · exact h4 j' (by omega) he
  · refine Or.inr ⟨h1, fun j hj he => ?_⟩
    by_cases hji : j = i
    · rw [hji] at he; exact absurd he hne
    · obtain ⟨j', k1, k2, k3⟩ := h2 j (by omega) he
      exact ⟨j', by omega, k2, k3⟩
/-- where the class's search stands behind i of them -/
def FG (s : Nat → Nat) (i f1 s2 : Nat) (aF aS : Int32) : Prop := Al s i f1 aF ∧ Al s i s2 aS ∧ (∀ j, j < i → s j = f1 ∨ (f1 < s j ∧ s2 ≤ s j)) ∧ f1 ≤ 1000 ∧ s2 ≤ 1000 ∧ (f1 < 1000 → f1 < s2) ∧ (0 < i → f1 < 1000 ∧ ∃ j, j < i ∧ s j = f1) ∧ (s2 < 1000 → ∃ j, j < i ∧ s j = s2) ∧ (i = 0 → f1 = 1000)
theorem FG_0 (s : Nat → Nat) : FG s 0 1000 1000 (-1) (-1) := ⟨Or.inr ⟨rfl, fun j hj => by omega⟩, Or.inr ⟨rfl, fun j hj => by omega⟩, fun j hj => by omega, by omega, by omega, by omega, by omega, by omega, fun _ => rfl⟩
theorem FG_end {n : Nat} {s : Nat → Nat} {f1 s2 : Nat} {aF aS : Int32} (hn : n ≤ 5) (hs : ∀ j, j < n → s j < 1000) (h : FG s n f1 s2 aF aS) : (if aF = -1 then (-1 : Int32) else aS) = gI n s := by
  obtain ⟨h1, h2, h3, h4, h5, h6, h7, h8, h9⟩ := h
  by_cases hn0 : n = 0
  · subst hn0
    rcases h1 with ⟨j, hj, _⟩ | ⟨h1, _⟩
    · omega
    · rw [if_pos h1, gI_neg (fun ⟨g, hg, _⟩ => by omega)]
  · obtain ⟨hf1, j0, hj0, hsj0⟩ := h7 (by omega)
    rcases h1 with ⟨f, hf, ef, sf, uf⟩ | ⟨h1, t1⟩
    · rw [if_neg (by rw [ef]; exact nI_m1 (by omega))]
      have hmin : ∀ j, j < n → j ≠ f → f1 < s j ∧ s2 ≤ s j := fun j hj hne => by
        rcases h3 j hj with h | h
        · exact absurd (uf j hj h) hne
        · exact h
      rcases h2 with ⟨g, hg, eg, sg, ug⟩ | ⟨h2, t2⟩
      · rw [eg]
        have hfg : f ≠ g := fun h => by
          rw [h] at sf
          have := h6 hf1
          omega
        refine (gI_pos ⟨hg, f, hf, hfg, fun j hj hne => by rw [sf]; exact (hmin j hj hne).1, fun j hj hne hne2 => ?_⟩).symm
        rw [sg]
        have := (hmin j hj hne).2
        have : s j ≠ s2 := fun h => hne2 (ug j hj h)
        omega
      · rw [h2]
        refine (gI_neg (fun ⟨g, hg, f', hf', hfg, k3, k4⟩ => ?_)).symm
        have hff : f' = f := by
          apply Classical.byContradiction
          intro hne
          have a1 := k3 f hf (fun h => hne h.symm)
          have a2 := (hmin f' hf' hne).1
          omega
        subst hff
        have hg2 := (hmin g hg (fun h => hfg h.symm)).2
        have hgs := hs g hg
        obtain ⟨j, hj, sj⟩ := h8 (by omega)
        have hjf : j ≠ f' := fun h => by rw [h, sf] at sj; have := h6 hf1; omega
        by_cases hjg : j = g
        · subst hjg
          obtain ⟨j', hj', hne, sj'⟩ := t2 j hj sj
          have hjf' : j' ≠ f' := fun h => by rw [h, sf] at sj'; have := h6 hf1; omega
          have := k4 j' hj' hjf' hne
          omega
        · have := k4 j hj hjf hjg
          omega
    · rw [if_pos h1]
      refine (gI_neg (fun ⟨g, hg, f', hf', hfg, k3, k4⟩ => ?_)).symm
      have hsf : s f' = f1 := by
        by_cases hjf : j0 = f'
        · rw [← hjf]; exact hsj0
        · have a1 := k3 j0 hj0 hjf
          rcases h3 f' hf' with h | h
          · exact h
          · omega
      obtain ⟨j', hj', hne, sj'⟩ := t1 f' hf' hsf
      have := k3 j' hj' hne
      omega
theorem fg {n : Nat} (hn : n ≤ 5) {s : Nat → Nat} {sil : Nat → Int32} (hs : ∀ j, j < n → s j < 1000) (he : ∀ j, j < n → sil j = nI (s j)) (g0 : Int32) : f_X2_findGetter g0 (nI n) sil = some (gI n s) := by
  obtain ⟨⟨aS, aF, y2, y1⟩, ⟨f1, s2, e1, e2, h1⟩, h2⟩ := lpU0 (fun k y (q : Int32 × Int32 × Int32 × Int32) => f_X2_findGetter_16 k (nI n) sil y q.1 q.2.1 q.2.2.1 q.2.2.2 g0) (fun q => (nI n, q.1, q.2.1, q.2.2.1, q.2.2.2, g0)) n
    (fun i q => ∃ f1 s2 : Nat, q.2.2.2 = nI f1 ∧ q.2.2.1 = nI s2 ∧ FG s i f1 s2 q.2.1 q.1) (-1, -1, 1000, 1000) (by omega) ⟨1000, 1000, rfl, rfl, FG_0 s⟩
    (fun k q _ => by show f_X2_findGetter_16 (k + 1) _ _ _ _ _ _ _ _ = _; rw [f_X2_findGetter_16, if_pos (le_t n)])
    (fun k i ⟨aS, aF, y2, y1⟩ hi ⟨f1, s2, e1, e2, h⟩ => by
      have e1 : y1 = nI f1 := e1
      have e2 : y2 = nI s2 := e2
      have h : FG s i f1 s2 aF aS := h
      obtain ⟨g1, g2, g3, g4, g5, g6, g7, g8, g9⟩ := h
      have hx := hs i hi
      show ∃ st', _ ∧ f_X2_findGetter_16 (k + 1) _ _ _ _ _ _ _ _ = _
      rw [f_X2_findGetter_16, if_neg (le_f hi (by omega)), if_neg (ckN (i := i) (by omega) (by decide)), cl5 (i := i) (by omega)]
      simp only [bnd, nI_1, he i hi]
      rw [e1, e2]
      by_cases c1 : f1 ≤ s i
      · rw [if_pos ((nI_b (by omega) (by omega)).mpr c1)]
        have hi0 : 0 < i := by
          apply Nat.pos_of_ne_zero
          intro hi0
          have := g9 hi0
          omega
        obtain ⟨g7a, j0, hj0, sj0⟩ := g7 hi0
        by_cases c2 : s i = f1
        · rw [if_pos (by rw [c2])]
          refine ⟨(aS, -1, nI s2, nI f1), ⟨f1, s2, rfl, rfl, Or.inr ⟨rfl, fun j hj hje => ?_⟩, Al_ext g2 (by have := g6 g7a; omega), fun j hj => ?_, g4, g5, g6, fun _ => ⟨g7a, j0, by omega, sj0⟩, fun hl => ?_, fun h => by omega⟩, rfl⟩
          · by_cases hji : j = i
            · exact ⟨j0, by omega, by omega, sj0⟩
            · exact ⟨i, by omega, fun h => hji h.symm, c2⟩
          · by_cases hji : j = i
            · rw [hji]; exact Or.inl c2
            · exact g3 j (by omega)
          · obtain ⟨j, hj, sj⟩ := g8 hl
            exact ⟨j, by omega, sj⟩
        · rw [if_neg (fun h => c2 ((nI_eq (by omega) (by omega)).mp h))]
          by_cases c3 : s2 ≤ s i
          · rw [if_pos ((nI_b (by omega) (by omega)).mpr c3)]
            by_cases c4 : s i = s2
            · rw [if_pos (by rw [c4])]
              obtain ⟨j1, hj1, sj1⟩ := g8 (by omega)
              refine ⟨(-1, aF, nI s2, nI f1), ⟨f1, s2, rfl, rfl, Al_ext g1 c2, Or.inr ⟨rfl, fun j hj hje => ?_⟩, fun j hj => ?_, g4, g5, g6, fun _ => ⟨g7a, j0, by omega, sj0⟩, fun hl => ⟨j1, by omega, sj1⟩, fun h => by omega⟩, rfl⟩
              · by_cases hji : j = i
                · exact ⟨j1, by omega, by omega, sj1⟩
                · exact ⟨i, by omega, fun h => hji h.symm, c4⟩
              · by_cases hji : j = i
                · rw [hji]; exact Or.inr ⟨by omega, by omega⟩
                · exact g3 j (by omega)
            · rw [if_neg (fun h => c4 ((nI_eq (by omega) (by omega)).mp h))]
              refine ⟨(aS, aF, nI s2, nI f1), ⟨f1, s2, rfl, rfl, Al_ext g1 c2, Al_ext g2 c4, fun j hj => ?_, g4, g5, g6, fun _ => ⟨g7a, j0, by omega, sj0⟩, fun hl => ?_, fun h => by omega⟩, rfl⟩
              · by_cases hji : j = i
                · rw [hji]; exact Or.inr ⟨by omega, by omega⟩
                · exact g3 j (by omega)
              · obtain ⟨j, hj, sj⟩ := g8 hl
                exact ⟨j, by omega, sj⟩
          · rw [if_neg (fun h => c3 ((nI_b (by omega) (by omega)).mp h))]
            refine ⟨(nI i, aF, nI (s i), nI f1), ⟨f1, s i, rfl, rfl, Al_ext g1 c2, Or.inl ⟨i, by omega, rfl, rfl, fun j' hj' hje => ?_⟩, fun j hj => ?_, g4, by omega, fun _ => by omega, fun _ => ⟨g7a, j0, by omega, sj0⟩, fun hl => ⟨i, by omega, rfl⟩, fun h => by omega⟩, rfl⟩
            · by_cases hji : j' = i
              · exact hji
              · rcases g3 j' (by omega) with h | h <;> omega
            · by_cases hji : j = i
              · rw [hji]; exact Or.inr ⟨by omega, by omega⟩
              · rcases g3 j (by omega) with h | h
                · exact Or.inl h
                · exact Or.inr ⟨h.1, by omega⟩
      · rw [if_neg (fun h => c1 ((nI_b (by omega) (by omega)).mp h))]
        refine ⟨(aF, nI i, nI f1, nI (s i)), ⟨s i, f1, rfl, rfl, Or.inl ⟨i, by omega, rfl, rfl, fun j' hj' hje => ?_⟩, Al_ext g1 (by omega), fun j hj => ?_, by omega, g4, fun _ => by omega, fun _ => ⟨by omega, i, by omega, rfl⟩, fun hl => ?_, fun h => by omega⟩, rfl⟩
        · by_cases hji : j' = i
          · exact hji
          · rcases g3 j' (by omega) with h | h <;> omega
        · by_cases hji : j = i
          · rw [hji]; exact Or.inl rfl
          · rcases g3 j (by omega) with h | h
            · exact Or.inr ⟨by omega, by omega⟩
            · exact Or.inr ⟨by omega, by omega⟩
        · by_cases hi0 : i = 0
          · have := g9 hi0; omega
          · obtain ⟨_, j, hj, sj⟩ := g7 (by omega)
            exact ⟨j, by omega, sj⟩)
  rw [f_X2_findGetter]
  have h2' : f_X2_findGetter_16 4096 (nI n) sil 0 (-1) (-1) 1000 1000 g0 = some (nI n, aS, aF, y2, y1, g0) := h2
  rw [h2']
  simp only [Option.bind_some]
  have h3 := FG_end hn hs h1
  have h3 : (if aF = -1 then (-1 : Int32) else aS) = gI n s := h3
  rw [← h3]
  split <;> rfl
end
