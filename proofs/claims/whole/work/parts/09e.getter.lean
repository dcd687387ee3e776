section
variable {n : Nat} {s : Nat → Nat} {ki st : Nat → Int32}
theorem nxS (hn : n ≤ 5) (hs : ∀ j, j < n → s j < 1000) (he : ∀ j, j < n → f_X12_silentFrom (nI j) ki st = some (nI (s j))) (u : Nat) (hu : u ≤ 268435456) : ∃ m : Nat, (m ≤ 268435456 ∧ (∀ j, j < n → u < s j → m ≤ s j) ∧ (m = 268435456 ∨ ∃ j, j < n ∧ s j = m ∧ u < s j)) ∧ f_X12_nextSilence (nI u) (nI n) ki st = some (nI m) := by
  obtain ⟨y, ⟨m, h1, h2, h3, h4⟩, h5⟩ := lpU0 (fun k y q => f_X12_nextSilence_5 k (nI u) (nI n) ki st y q) (fun q => (nI n, q)) n
    (fun i q => ∃ m : Nat, q = nI m ∧ m ≤ 268435456 ∧ (∀ j, j < i → u < s j → m ≤ s j) ∧ (m = 268435456 ∨ ∃ j, j < n ∧ s j = m ∧ u < s j)) 268435456 (by omega) ⟨268435456, rfl, Nat.le_refl _, fun j hj => by omega, Or.inl rfl⟩
    (fun k q _ => by show f_X12_nextSilence_5 (k + 1) _ _ _ _ _ _ = _; rw [f_X12_nextSilence_5, if_pos (le_t n)])
    (fun k i q hi ⟨m, g1, g2, g3, g4⟩ => by
      have hx := hs i hi
      show ∃ st', _ ∧ f_X12_nextSilence_5 (k + 1) _ _ _ _ _ _ = _
      rw [f_X12_nextSilence_5, if_neg (le_f hi (by omega)), he i hi]
      simp only [Option.bind_some, bnd, nI_1]
      rw [g1]
      by_cases c1 : s i ≤ u
      · rw [if_pos ((nI_b (by omega) (by omega)).mpr c1)]
        refine ⟨_, ⟨m, rfl, g2, fun j hj hl => ?_, g4⟩, rfl⟩
        by_cases hji : j = i
        · rw [hji] at hl; omega
        · exact g3 j (by omega) hl
      · rw [if_neg (fun h => c1 ((nI_b (by omega) (by omega)).mp h))]
        by_cases c2 : m ≤ s i
        · rw [if_pos ((nI_b (by omega) (by omega)).mpr c2)]
          refine ⟨_, ⟨m, rfl, g2, fun j hj hl => ?_, g4⟩, rfl⟩
          by_cases hji : j = i
          · rw [hji]; exact c2
          · exact g3 j (by omega) hl
        · rw [if_neg (fun h => c2 ((nI_b (by omega) (by omega)).mp h))]
          refine ⟨_, ⟨s i, rfl, by omega, fun j hj hl => ?_, Or.inr ⟨i, hi, rfl, by omega⟩⟩, rfl⟩
          by_cases hji : j = i
          · rw [hji]; exact Nat.le_refl _
          · have := g3 j (by omega) hl; omega)
  refine ⟨m, ⟨h2, h3, h4⟩, ?_⟩
  rw [f_X12_nextSilence]
  have h5' : f_X12_nextSilence_5 4096 (nI u) (nI n) ki st 0 268435456 = some (nI n, y) := h5
  rw [h5', h1]
  rfl
theorem mnS (hn : n ≤ 5) (hs : ∀ j, j < n → s j < 1000) (he : ∀ j, j < n → f_X12_silentFrom (nI j) ki st = some (nI (s j))) (v : Nat) (hv : v ≤ 268435456) : f_X12_manySilent (nI v) (nI n) ki st = some (nI (cnt (fun j => decide (s j = v)) n)) := by
  obtain ⟨y, h1, h5⟩ := lpU0 (fun k y q => f_X12_manySilent_4 k (nI v) (nI n) ki st y q) (fun q => (nI n, q)) n
    (fun i q => q = nI (cnt (fun j => decide (s j = v)) i)) 0 (by omega) rfl
    (fun k q _ => by show f_X12_manySilent_4 (k + 1) _ _ _ _ _ _ = _; rw [f_X12_manySilent_4, if_pos (le_t n)])
    (fun k i q hi g1 => by
      have hx := hs i hi
      show ∃ st', _ ∧ f_X12_manySilent_4 (k + 1) _ _ _ _ _ _ = _
      rw [f_X12_manySilent_4, if_neg (le_f hi (by omega)), he i hi]
      simp only [Option.bind_some, bnd, nI_1]
      rw [g1]
      by_cases c1 : s i = v
      · rw [if_pos (by rw [c1])]
        refine ⟨_, ?_, rfl⟩
        rw [nI_1, cnt]
        simp [c1]
      · rw [if_neg (fun h => c1 ((nI_eq (by omega) (by omega)).mp h))]
        refine ⟨_, ?_, rfl⟩
        rw [cnt]
        simp [c1])
  rw [f_X12_manySilent]
  have h5' : f_X12_manySilent_4 4096 (nI v) (nI n) ki st 0 0 = some (nI n, y) := h5
  rw [h5', h1]
  rfl
theorem gt37 (hn : n ≤ 5) (hs : ∀ j, j < n → s j < 1000) (he : ∀ j, j < n → f_X12_silentFrom (nI j) ki st = some (nI (s j))) (v g : Nat) (hv : v ≤ 268435456) (hg : g < n) (hsg : s g = v) (hu : ∀ j, j < n → s j = v → j = g) : f_X12_getter_37 4096 (nI n) ki st 0 (-1) (nI v) = some (nI n, nI g, nI v) := by
  obtain ⟨y, ⟨h1, h2⟩, h5⟩ := lpU0 (fun k y q => f_X12_getter_37 k (nI n) ki st y q (nI v)) (fun q => (nI n, q, nI v)) n
    (fun i q => (g < i → q = nI g) ∧ (i ≤ g → True)) (-1) (by omega) ⟨fun h => by omega, fun _ => trivial⟩
    (fun k q _ => by show f_X12_getter_37 (k + 1) _ _ _ _ _ _ = _; rw [f_X12_getter_37, if_pos (le_t n)])
    (fun k i q hi g1 => by
      have hx := hs i hi
      show ∃ st', _ ∧ f_X12_getter_37 (k + 1) _ _ _ _ _ _ = _
      rw [f_X12_getter_37, if_neg (le_f hi (by omega)), he i hi]
      simp only [Option.bind_some, bnd, nI_1]
      by_cases c1 : s i = v
      · rw [if_pos (by rw [c1])]
        refine ⟨_, ⟨fun _ => ?_, fun _ => trivial⟩, rfl⟩
        rw [hu i hi c1]
      · rw [if_neg (fun h => c1 ((nI_eq (by omega) (by omega)).mp h))]
        refine ⟨_, ⟨fun h => g1.1 ?_, fun _ => trivial⟩, rfl⟩
        have : g ≠ i := fun h => c1 (by rw [← h]; exact hsg)
        omega)
  have h5' : f_X12_getter_37 4096 (nI n) ki st 0 (-1) (nI v) = some (nI n, y, nI v) := h5
  rw [h5', h1 hg]
theorem nI_is1 {a : Nat} (ha : a < 2 ^ 31) (h : nI a = 1) : a = 1 := (nI_eq (a := a) (b := 1) ha (by omega)).mp h
theorem gt (hn : n ≤ 5) (hs : ∀ j, j < n → s j < 1000 ∧ 0 < s j) (he : ∀ j, j < n → f_X12_silentFrom (nI j) ki st = some (nI (s j))) : f_X12_getter (nI n) ki st = some (gI n s) := by
  have hs1 : ∀ j, j < n → s j < 1000 := fun j hj => (hs j hj).1
  obtain ⟨m1, ⟨a1, a2, a3⟩, a4⟩ := nxS hn hs1 he 0 (by omega)
  obtain ⟨m2, ⟨b1, b2, b3⟩, b4⟩ := nxS hn hs1 he m1 a1
  rw [f_X12_getter]
  have a4' : f_X12_nextSilence 0 (nI n) ki st = some (nI m1) := a4
  rw [a4']
  simp only [Option.bind_some]
  rw [b4]
  simp only [Option.bind_some]
  rw [mnS hn hs1 he m1 a1]
  simp only [Option.bind_some]
  have hc1 := cnt_le (fun j => decide (s j = m1)) n
  have hc2 := cnt_le (fun j => decide (s j = m2)) n
  have hno : (∃ g, isG n s g) → cnt (fun j => decide (s j = m1)) n = 1 ∧ cnt (fun j => decide (s j = m2)) n = 1 := by
    intro ⟨g, hg, f, hf, hfg, k3, k4⟩
    have q1 : m1 = s f := by
      have := a2 f hf (hs f hf).2
      have := hs1 f hf
      rcases a3 with h | ⟨j, hj, sj, _⟩
      · omega
      · by_cases hjf : j = f
        · rw [← hjf]; exact sj.symm
        · have := k3 j hj hjf; omega
    have q2 : m2 = s g := by
      have hgf := k3 g hg (fun h => hfg h.symm)
      have := b2 g hg (by omega)
      have := hs1 g hg
      rcases b3 with h | ⟨j, hj, sj, hj2⟩
      · omega
      · by_cases hjg : j = g
        · rw [← hjg]; exact sj.symm
        · have hjf : j ≠ f := fun h => by rw [h] at hj2; omega
          have := k4 j hj hjf hjg
          omega
    refine ⟨cnt_one.mpr ⟨f, hf, by simp [q1], fun j hj hje => ?_⟩, cnt_one.mpr ⟨g, hg, by simp [q2], fun j hj hje => ?_⟩⟩
    · apply Classical.byContradiction
      intro hne
      have := k3 j hj hne
      simp at hje
      omega
    · apply Classical.byContradiction
      intro hne
      simp at hje
      have hgf := k3 g hg (fun h => hfg h.symm)
      have hjf : j ≠ f := fun h => by rw [h] at hje; omega
      have := k4 j hj hjf hne
      omega
  by_cases h1 : cnt (fun j => decide (s j = m1)) n = 1
  · rw [if_pos (by rw [h1]; rfl), mnS hn hs1 he m2 b1]
    simp only [Option.bind_some]
    by_cases h2 : cnt (fun j => decide (s j = m2)) n = 1
    · rw [if_pos (by rw [h2]; rfl)]
      obtain ⟨f, hf, sf, uf⟩ := cnt_one.mp h1
      obtain ⟨g, hg, sg, ug⟩ := cnt_one.mp h2
      simp at sf sg
      have uf' : ∀ j, j < n → s j = m1 → j = f := fun j hj h => uf j hj (by simp [h])
      have ug' : ∀ j, j < n → s j = m2 → j = g := fun j hj h => ug j hj (by simp [h])
      rw [gt37 hn hs1 he m2 g b1 hg sg ug']
      simp only [Option.bind_some]
      have hG : isG n s g := by
        have hm12 : m1 < m2 := by
          rcases b3 with h | ⟨j, hj, sj, hj2⟩
          · have := hs1 g hg; omega
          · omega
        refine ⟨hg, f, hf, fun h => by rw [h] at sf; omega, fun j hj hne => ?_, fun j hj hne hne2 => ?_⟩
        · have := a2 j hj (hs j hj).2
          have : s j ≠ m1 := fun h => hne (uf' j hj h)
          omega
        · have q := a2 j hj (hs j hj).2
          have q2 : s j ≠ m1 := fun h => hne (uf' j hj h)
          have := b2 j hj (by omega)
          have : s j ≠ m2 := fun h => hne2 (ug' j hj h)
          omega
      rw [gI_pos hG]
    · rw [if_neg (fun h => h2 (nI_is1 (by omega) h)), gI_neg (fun h => h2 (hno h).2)]
  · rw [if_neg (fun h => h1 (nI_is1 (by omega) h)), gI_neg (fun h => h1 (hno h).1)]
end
