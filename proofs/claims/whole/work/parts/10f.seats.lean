section
theorem WD.chg {g : GG} {A : Nat → Prop} {H0 H : Heap} {ws ws' : va_W} {locs : List Loc} (h : WD g A H0 ws H locs) (q0 : Nat) {a : Nat} {x y : va_E} (he : ws[q0]? = some (a, x)) (hx : va_at g.1 vcl (a, x) H → va_at g.1 vcl (a, y) H) (hs : ws.set q0 (a, y) = ws') : WD g A H0 ws' H locs := by
  subst hs
  have key : ∀ (k : Nat) (q : Nat × va_E), (ws.set q0 (a, y))[k]? = some q → (k = q0 ∧ q = (a, y)) ∨ (k ≠ q0 ∧ ws[k]? = some q) := fun k q hq => by
    rw [List.getElem?_set] at hq
    by_cases hk : q0 = k
    · subst hk
      rw [if_pos rfl] at hq
      split at hq
      · cases hq; exact Or.inl ⟨rfl, rfl⟩
      · cases hq
    · rw [if_neg hk] at hq
      exact Or.inr ⟨fun e => hk e.symm, hq⟩
  have key2 : ∀ (k : Nat) (q : Nat × va_E), (ws.set q0 (a, y))[k]? = some q → ∃ q', ws[k]? = some q' ∧ q'.1 = q.1 := fun k q hq => by
    rcases key k q hq with ⟨rfl, rfl⟩ | ⟨_, h2⟩
    · exact ⟨_, he, rfl⟩
    · exact ⟨_, h2, rfl⟩
  refine ⟨fun k q hq => ?_, ⟨fun i j p q hp hq e => ?_, fun k q hq => ?_⟩, h.2.2⟩
  · rcases key k q hq with ⟨rfl, rfl⟩ | ⟨_, h2⟩
    · exact hx (h.1 _ _ he)
    · exact h.1 k q h2
  · obtain ⟨p', p1, p2⟩ := key2 i p hp
    obtain ⟨q', q1, q2⟩ := key2 j q hq
    exact h.2.1.1 i j p' q' p1 q1 (by rw [p2, q2]; exact e)
  · obtain ⟨q', q1, q2⟩ := key2 k q hq
    rw [← q2]
    exact h.2.1.2 k q' q1
theorem seats0 {g : GG} {H : Heap} {q5 q6 q7 q8 q9 q10 : Nat} (h : va_at g.1 vcl (ra g q5 5 (va_up (va_up (va_up (va_up (va_up (fun _ => none) 0 (some q6)) 1 (some q7)) 2 (some q8)) 3 (some q9)) 4 (some q10))) H) : va_at g.1 vcl (ra g q5 5 (fun i => some ([q6, q7, q8, q9, q10].getD i 0))) H := h
end
