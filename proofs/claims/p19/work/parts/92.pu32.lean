-- pure rows: GK GL
section
/-! pure rows: a new object of the class -/
section
variable {b s n : Nat} {c : List va_E} {j ci k a b' : Nat} {cs : Nat → ClassId} {lim dE : Nat × Nat}
theorem lm_cI : cI (lm b s c) (b + j) k = vI (fsOf c j)[k]? := by unfold cI; rw [lm_cO]
theorem lm_mok : MOk (lm b s c) := fun a ha => by
  show (if b ≤ a then (c[a - b]?).map (fun e => (1, e)) else none) = none
  have h : b + c.length ≤ a := ha
  rw [if_pos (by omega), List.getElem?_eq_none (by omega)]
  rfl
theorem lm_of {x : Nat × va_E} (h : (lm b s c).1 a = some x) : b ≤ a ∧ c[a - b]? = some x.2 ∧ x.1 = 1 := by
  have h' : (if b ≤ a then (c[a - b]?).map (fun e => (1, e)) else none) = some x := h
  by_cases h1 : b ≤ a
  · rw [if_pos h1] at h'
    cases h2 : c[a - b]? with
    | none => rw [h2] at h'; cases h'
    | some e => rw [h2] at h'; cases h'; exact ⟨h1, rfl, rfl⟩
  · rw [if_neg h1] at h'; cases h'
theorem lm_aI {m : Nat} {f : Nat → Int32} (h : c[j]? = some (.inl (cs 0, m, .inl f))) : aIk (cs 0) (lm b s c) (b + j) ∧ aL (lm b s c) (b + j) = m ∧ aF (lm b s c) (b + j) = f := by
  have h1 : (lm b s c).1 (b + j) = some (1, .inl (cs 0, m, .inl f)) := by rw [lm_at, h]; rfl
  exact ⟨⟨m, f, h1⟩, (aI_of h1).1, (aI_of h1).2⟩
theorem lm_aQ {t m : Nat} {f : Nat → Option Nat} (h : c[j]? = some (.inl (cs t, m, .inr (.inr (.inr (.inr f)))))) : aQk (cs t) (lm b s c) (b + j) ∧ aL (lm b s c) (b + j) = m := by
  have h1 : (lm b s c).1 (b + j) = some (1, .inl (cs t, m, .inr (.inr (.inr (.inr f))))) := by rw [lm_at, h]; rfl
  exact ⟨⟨m, f, h1⟩, (aQ_of h1).1⟩
abbrev MZ (cs : Nat → ClassId) (dE : Nat × Nat) (b : Nat) : gMem := lm b 421 (kZ cs dE b)
def Az (b : Nat) : Ad := ⟨b, b + 1, b + 2, b + 4, b + 6, b + 8, b + 10, b + 11, b + 12, b + 13, b + 14, b + 15, b + 16, b + 17, b + 18, b + 19, b + 20, b + 22, b + 23, b + 24, b + 25⟩
theorem own_c (ho : (ci, k) ∈ OWN) (h : cOk ci (MZ cs dE b) a) (hq : cQ (MZ cs dE b) a k = some b') : (a = b + 0 ∧ ci = 0 ∧ k = 2 ∧ b' = b + 15) ∨ (a = b + 0 ∧ ci = 0 ∧ k = 3 ∧ b' = b + 16) ∨ (a = b + 2 ∧ ci = 2 ∧ k = 0 ∧ b' = b + 3) ∨ (a = b + 4 ∧ ci = 2 ∧ k = 0 ∧ b' = b + 5) ∨ (a = b + 6 ∧ ci = 2 ∧ k = 0 ∧ b' = b + 7) ∨ (a = b + 8 ∧ ci = 2 ∧ k = 0 ∧ b' = b + 9) ∨ (a = b + 10 ∧ ci = 3 ∧ k = 0 ∧ b' = b + 11) ∨ (a = b + 10 ∧ ci = 3 ∧ k = 1 ∧ b' = b + 12) ∨ (a = b + 17 ∧ ci = 6 ∧ k = 4 ∧ b' = b + 18) ∨ (a = b + 17 ∧ ci = 6 ∧ k = 2 ∧ b' = b + 15) ∨ (a = b + 17 ∧ ci = 6 ∧ k = 3 ∧ b' = b + 16) ∨ (a = b + 20 ∧ ci = 2 ∧ k = 0 ∧ b' = b + 21) ∨ (a = b + 24 ∧ ci = 13 ∧ k = 0 ∧ b' = dE.1) ∨ (a = b + 25 ∧ ci = 13 ∧ k = 0 ∧ b' = dE.1) := by
  obtain ⟨fs, h1, -⟩ := h
  obtain ⟨h2, h3, -⟩ := lm_of h1
  obtain ⟨j, rfl⟩ : ∃ j, a = b + j := ⟨a - b, by omega⟩
  rw [Nat.add_sub_cancel_left] at h3
  rw [lm_cQ] at hq
  have hj : j < 26 := by
    rcases Nat.lt_or_ge j 26 with z | z
    · exact z
    · rw [List.getElem?_eq_none (show (kZ cs dE b).length ≤ j from z)] at h3; cases h3
  simp only [OWN, List.mem_cons, Prod.mk.injEq, List.not_mem_nil, or_false] at ho
  have hj26 : j = 0 ∨ j = 1 ∨ j = 2 ∨ j = 3 ∨ j = 4 ∨ j = 5 ∨ j = 6 ∨ j = 7 ∨ j = 8 ∨ j = 9 ∨ j = 10 ∨ j = 11 ∨ j = 12 ∨ j = 13 ∨ j = 14 ∨ j = 15 ∨ j = 16 ∨ j = 17 ∨ j = 18 ∨ j = 19 ∨ j = 20 ∨ j = 21 ∨ j = 22 ∨ j = 23 ∨ j = 24 ∨ j = 25 := by omega
  rcases hj26 with rfl | rfl | rfl | rfl | rfl | rfl | rfl | rfl | rfl | rfl | rfl | rfl | rfl | rfl | rfl | rfl | rfl | rfl | rfl | rfl | rfl | rfl | rfl | rfl | rfl | rfl
  · have h4 : some (.inr (0, [.ref (b + 1), .ref (b + 10), .ref (b + 15), .ref (b + 16), .ref (b + 17), .ref (b + 19), .ref (b + 22)]) : va_E) = some (.inr (ci, fs)) := h3
    have h5 : ci = 0 := by cases h4; rfl
    subst h5
    have hk : k = 2 ∨ k = 3 := by clear h3 h4 hq h2 hj; omega
    rcases hk with rfl | rfl
    · have h6 : some (b + 15) = some b' := hq
      cases h6
      exact Or.inl (⟨rfl, rfl, rfl, rfl⟩)
    · have h6 : some (b + 16) = some b' := hq
      cases h6
      exact Or.inr (Or.inl (⟨rfl, rfl, rfl, rfl⟩))
  · have h4 : some (.inr (1, [.ref (b + 2), .ref (b + 4), .ref (b + 6), .ref (b + 8), .int 3]) : va_E) = some (.inr (ci, fs)) := h3
    have h5 : ci = 1 := by cases h4; rfl
    subst h5
    exact absurd ho (by simp [si_1, si_2, sl_1, sl_2, sl_3, ai_1, ai_2, ai_3, ai_4, al_1, al_2, al_3, al_4])
  · have h4 : some (.inr (2, [.ref (b + 3)]) : va_E) = some (.inr (ci, fs)) := h3
    have h5 : ci = 2 := by cases h4; rfl
    subst h5
    have hk : k = 0 := by clear h3 h4 hq h2 hj; omega
    rcases hk with rfl
    · have h6 : some (b + 3) = some b' := hq
      cases h6
      exact Or.inr (Or.inr (Or.inl (⟨rfl, rfl, rfl, rfl⟩)))
  · have h4 : some (.inl (cs 0, 16, .inl (fun _ => 0)) : va_E) = some (.inr (ci, fs)) := h3
    cases h4
  · have h4 : some (.inr (2, [.ref (b + 5)]) : va_E) = some (.inr (ci, fs)) := h3
    have h5 : ci = 2 := by cases h4; rfl
    subst h5
    have hk : k = 0 := by clear h3 h4 hq h2 hj; omega
    rcases hk with rfl
    · have h6 : some (b + 5) = some b' := hq
      cases h6
      exact Or.inr (Or.inr (Or.inr (Or.inl (⟨rfl, rfl, rfl, rfl⟩))))
  · have h4 : some (.inl (cs 0, 16, .inl (fun _ => 0)) : va_E) = some (.inr (ci, fs)) := h3
    cases h4
  · have h4 : some (.inr (2, [.ref (b + 7)]) : va_E) = some (.inr (ci, fs)) := h3
    have h5 : ci = 2 := by cases h4; rfl
    subst h5
    have hk : k = 0 := by clear h3 h4 hq h2 hj; omega
    rcases hk with rfl
    · have h6 : some (b + 7) = some b' := hq
      cases h6
      exact Or.inr (Or.inr (Or.inr (Or.inr (Or.inl (⟨rfl, rfl, rfl, rfl⟩)))))
  · have h4 : some (.inl (cs 0, 16, .inl (fun _ => 0)) : va_E) = some (.inr (ci, fs)) := h3
    cases h4
  · have h4 : some (.inr (2, [.ref (b + 9)]) : va_E) = some (.inr (ci, fs)) := h3
    have h5 : ci = 2 := by cases h4; rfl
    subst h5
    have hk : k = 0 := by clear h3 h4 hq h2 hj; omega
    rcases hk with rfl
    · have h6 : some (b + 9) = some b' := hq
      cases h6
      exact Or.inr (Or.inr (Or.inr (Or.inr (Or.inr (Or.inl (⟨rfl, rfl, rfl, rfl⟩))))))
  · have h4 : some (.inl (cs 0, 16, .inl (fun _ => 0)) : va_E) = some (.inr (ci, fs)) := h3
    cases h4
  · have h4 : some (.inr (3, [.ref (b + 11), .ref (b + 12), .ref (b + 13), .ref (b + 14), .int 0, .int 0, .int 0]) : va_E) = some (.inr (ci, fs)) := h3
    have h5 : ci = 3 := by cases h4; rfl
    subst h5
    have hk : k = 0 ∨ k = 1 := by clear h3 h4 hq h2 hj; omega
    rcases hk with rfl | rfl
    · have h6 : some (b + 11) = some b' := hq
      cases h6
      exact Or.inr (Or.inr (Or.inr (Or.inr (Or.inr (Or.inr (Or.inl (⟨rfl, rfl, rfl, rfl⟩)))))))
    · have h6 : some (b + 12) = some b' := hq
      cases h6
      exact Or.inr (Or.inr (Or.inr (Or.inr (Or.inr (Or.inr (Or.inr (Or.inl (⟨rfl, rfl, rfl, rfl⟩))))))))
  · have h4 : some (.inl (cs 3, 200, .inr (.inr (.inr (.inr (fun _ => none))))) : va_E) = some (.inr (ci, fs)) := h3
    cases h4
  · have h4 : some (.inl (cs 4, 40, .inr (.inr (.inr (.inr (fun _ => none))))) : va_E) = some (.inr (ci, fs)) := h3
    cases h4
  · have h4 : some (.inr (4, [.int 2, .int 0, .int (-1), .int (-1), .int (-1), .int (-1), .int (-1), .int 0, .int 0, .int 1, .int 1]) : va_E) = some (.inr (ci, fs)) := h3
    have h5 : ci = 4 := by cases h4; rfl
    subst h5
    exact absurd ho (by simp [si_1, si_2, sl_1, sl_2, sl_3, ai_1, ai_2, ai_3, ai_4, al_1, al_2, al_3, al_4])
  · have h4 : some (.inr (5, [.int 0, .int 0, .int 0, .int (-1)]) : va_E) = some (.inr (ci, fs)) := h3
    have h5 : ci = 5 := by cases h4; rfl
    subst h5
    exact absurd ho (by simp [si_1, si_2, sl_1, sl_2, sl_3, ai_1, ai_2, ai_3, ai_4, al_1, al_2, al_3, al_4])
  · have h4 : some (.inl (cs 0, 8, .inl (fun _ => 0)) : va_E) = some (.inr (ci, fs)) := h3
    cases h4
  · have h4 : some (.inl (cs 0, 8, .inl (fun _ => 0)) : va_E) = some (.inr (ci, fs)) := h3
    cases h4
  · have h4 : some (.inr (6, [.ref (b + 10), .ref (b + 1), .ref (b + 15), .ref (b + 16), .ref (b + 18), .int 0, .int (-1), .int 0]) : va_E) = some (.inr (ci, fs)) := h3
    have h5 : ci = 6 := by cases h4; rfl
    subst h5
    have hk : k = 4 ∨ k = 2 ∨ k = 3 := by clear h3 h4 hq h2 hj; omega
    rcases hk with rfl | rfl | rfl
    · have h6 : some (b + 18) = some b' := hq
      cases h6
      exact Or.inr (Or.inr (Or.inr (Or.inr (Or.inr (Or.inr (Or.inr (Or.inr (Or.inl (⟨rfl, rfl, rfl, rfl⟩)))))))))
    · have h6 : some (b + 15) = some b' := hq
      cases h6
      exact Or.inr (Or.inr (Or.inr (Or.inr (Or.inr (Or.inr (Or.inr (Or.inr (Or.inr (Or.inl (⟨rfl, rfl, rfl, rfl⟩))))))))))
    · have h6 : some (b + 16) = some b' := hq
      cases h6
      exact Or.inr (Or.inr (Or.inr (Or.inr (Or.inr (Or.inr (Or.inr (Or.inr (Or.inr (Or.inr (Or.inl (⟨rfl, rfl, rfl, rfl⟩)))))))))))
  · have h4 : some (.inl (cs 0, 10, .inl (fun _ => 0)) : va_E) = some (.inr (ci, fs)) := h3
    cases h4
  · have h4 : some (.inr (7, [.ref (b + 10), .ref (b + 20), .int 0]) : va_E) = some (.inr (ci, fs)) := h3
    have h5 : ci = 7 := by cases h4; rfl
    subst h5
    exact absurd ho (by simp [si_1, si_2, sl_1, sl_2, sl_3, ai_1, ai_2, ai_3, ai_4, al_1, al_2, al_3, al_4])
  · have h4 : some (.inr (2, [.ref (b + 21)]) : va_E) = some (.inr (ci, fs)) := h3
    have h5 : ci = 2 := by cases h4; rfl
    subst h5
    have hk : k = 0 := by clear h3 h4 hq h2 hj; omega
    rcases hk with rfl
    · have h6 : some (b + 21) = some b' := hq
      cases h6
      exact Or.inr (Or.inr (Or.inr (Or.inr (Or.inr (Or.inr (Or.inr (Or.inr (Or.inr (Or.inr (Or.inr (Or.inl (⟨rfl, rfl, rfl, rfl⟩))))))))))))
  · have h4 : some (.inl (cs 0, 16, .inl (fun _ => 0)) : va_E) = some (.inr (ci, fs)) := h3
    cases h4
  · have h4 : some (.inr (8, [.ref (b + 19), .ref (b + 23), .int 0, .int 0, .int 0, .int 0, .int 0, .int 0, .int 0, .int (-1), .null, .int 0, .int 0, .int 0]) : va_E) = some (.inr (ci, fs)) := h3
    have h5 : ci = 8 := by cases h4; rfl
    subst h5
    exact absurd ho (by simp [si_1, si_2, sl_1, sl_2, sl_3, ai_1, ai_2, ai_3, ai_4, al_1, al_2, al_3, al_4])
  · have h4 : some (.inr (9, [.ref (b + 24), .ref (b + 25), .int 0, .int 0, .null]) : va_E) = some (.inr (ci, fs)) := h3
    have h5 : ci = 9 := by cases h4; rfl
    subst h5
    exact absurd ho (by simp [si_1, si_2, sl_1, sl_2, sl_3, ai_1, ai_2, ai_3, ai_4, al_1, al_2, al_3, al_4])
  · have h4 : some (.inr (13, [.ref dE.1, .int 0, .int 0]) : va_E) = some (.inr (ci, fs)) := h3
    have h5 : ci = 13 := by cases h4; rfl
    subst h5
    have hk : k = 0 := by clear h3 h4 hq h2 hj; omega
    rcases hk with rfl
    · have h6 : some (dE.1) = some b' := hq
      cases h6
      exact Or.inr (Or.inr (Or.inr (Or.inr (Or.inr (Or.inr (Or.inr (Or.inr (Or.inr (Or.inr (Or.inr (Or.inr (Or.inl (⟨rfl, rfl, rfl, rfl⟩)))))))))))))
  · have h4 : some (.inr (13, [.ref dE.1, .int 0, .int 0]) : va_E) = some (.inr (ci, fs)) := h3
    have h5 : ci = 13 := by cases h4; rfl
    subst h5
    have hk : k = 0 := by clear h3 h4 hq h2 hj; omega
    rcases hk with rfl
    · have h6 : some (dE.1) = some b' := hq
      cases h6
      exact Or.inr (Or.inr (Or.inr (Or.inr (Or.inr (Or.inr (Or.inr (Or.inr (Or.inr (Or.inr (Or.inr (Or.inr (Or.inr (⟨rfl, rfl, rfl, rfl⟩)))))))))))))
theorem sole_c (hd : dE.1 < b) {j0 t : Nat} (ht : t = 3 ∨ t = 5 ∨ t = 7 ∨ t = 9 ∨ t = 21) (hj : j0 + 1 = t) : Sole (MZ cs dE b) 2 0 (b + j0) (b + t) := fun a ci k ho h hq => by
  rcases own_c ho h hq with ⟨rfl, rfl, rfl, e⟩ | ⟨rfl, rfl, rfl, e⟩ | ⟨rfl, rfl, rfl, e⟩ | ⟨rfl, rfl, rfl, e⟩ | ⟨rfl, rfl, rfl, e⟩ | ⟨rfl, rfl, rfl, e⟩ | ⟨rfl, rfl, rfl, e⟩ | ⟨rfl, rfl, rfl, e⟩ | ⟨rfl, rfl, rfl, e⟩ | ⟨rfl, rfl, rfl, e⟩ | ⟨rfl, rfl, rfl, e⟩ | ⟨rfl, rfl, rfl, e⟩ | ⟨rfl, rfl, rfl, e⟩ | ⟨rfl, rfl, rfl, e⟩ <;> first | omega | (refine ⟨rfl, rfl, ?_⟩; omega)
theorem lay_c (hd : dE.1 < b) : Lay cs (Az b) (MZ cs dE b) := by
  refine ⟨lm_mok, ?_, ?_, ?_, ?_, ?_, ?_, ?_⟩
  · intro q hq
    simp only [REFS, List.mem_cons, List.not_mem_nil, or_false] at hq
    rcases hq with rfl | rfl | rfl | rfl | rfl | rfl | rfl | rfl | rfl | rfl | rfl | rfl | rfl | rfl | rfl | rfl | rfl | rfl | rfl | rfl | rfl | rfl | rfl | rfl | rfl | rfl
    · exact ⟨lm_ok (b := b) (j := 0) rfl, (lm_cQ (b := b) (j := 0)).trans rfl⟩
    · exact ⟨lm_ok (b := b) (j := 0) rfl, (lm_cQ (b := b) (j := 0)).trans rfl⟩
    · exact ⟨lm_ok (b := b) (j := 0) rfl, (lm_cQ (b := b) (j := 0)).trans rfl⟩
    · exact ⟨lm_ok (b := b) (j := 0) rfl, (lm_cQ (b := b) (j := 0)).trans rfl⟩
    · exact ⟨lm_ok (b := b) (j := 0) rfl, (lm_cQ (b := b) (j := 0)).trans rfl⟩
    · exact ⟨lm_ok (b := b) (j := 0) rfl, (lm_cQ (b := b) (j := 0)).trans rfl⟩
    · exact ⟨lm_ok (b := b) (j := 0) rfl, (lm_cQ (b := b) (j := 0)).trans rfl⟩
    · exact ⟨lm_ok (b := b) (j := 1) rfl, (lm_cQ (b := b) (j := 1)).trans rfl⟩
    · exact ⟨lm_ok (b := b) (j := 1) rfl, (lm_cQ (b := b) (j := 1)).trans rfl⟩
    · exact ⟨lm_ok (b := b) (j := 1) rfl, (lm_cQ (b := b) (j := 1)).trans rfl⟩
    · exact ⟨lm_ok (b := b) (j := 1) rfl, (lm_cQ (b := b) (j := 1)).trans rfl⟩
    · exact ⟨lm_ok (b := b) (j := 10) rfl, (lm_cQ (b := b) (j := 10)).trans rfl⟩
    · exact ⟨lm_ok (b := b) (j := 10) rfl, (lm_cQ (b := b) (j := 10)).trans rfl⟩
    · exact ⟨lm_ok (b := b) (j := 10) rfl, (lm_cQ (b := b) (j := 10)).trans rfl⟩
    · exact ⟨lm_ok (b := b) (j := 10) rfl, (lm_cQ (b := b) (j := 10)).trans rfl⟩
    · exact ⟨lm_ok (b := b) (j := 17) rfl, (lm_cQ (b := b) (j := 17)).trans rfl⟩
    · exact ⟨lm_ok (b := b) (j := 17) rfl, (lm_cQ (b := b) (j := 17)).trans rfl⟩
    · exact ⟨lm_ok (b := b) (j := 17) rfl, (lm_cQ (b := b) (j := 17)).trans rfl⟩
    · exact ⟨lm_ok (b := b) (j := 17) rfl, (lm_cQ (b := b) (j := 17)).trans rfl⟩
    · exact ⟨lm_ok (b := b) (j := 17) rfl, (lm_cQ (b := b) (j := 17)).trans rfl⟩
    · exact ⟨lm_ok (b := b) (j := 19) rfl, (lm_cQ (b := b) (j := 19)).trans rfl⟩
    · exact ⟨lm_ok (b := b) (j := 19) rfl, (lm_cQ (b := b) (j := 19)).trans rfl⟩
    · exact ⟨lm_ok (b := b) (j := 22) rfl, (lm_cQ (b := b) (j := 22)).trans rfl⟩
    · exact ⟨lm_ok (b := b) (j := 22) rfl, (lm_cQ (b := b) (j := 22)).trans rfl⟩
    · exact ⟨lm_ok (b := b) (j := 23) rfl, (lm_cQ (b := b) (j := 23)).trans rfl⟩
    · exact ⟨lm_ok (b := b) (j := 23) rfl, (lm_cQ (b := b) (j := 23)).trans rfl⟩
  · intro q hq
    simp only [OBJS, List.mem_cons, List.not_mem_nil, or_false] at hq
    rcases hq with rfl | rfl | rfl | rfl | rfl | rfl | rfl | rfl | rfl
    · exact lm_ok (b := b) (j := 2) rfl
    · exact lm_ok (b := b) (j := 4) rfl
    · exact lm_ok (b := b) (j := 6) rfl
    · exact lm_ok (b := b) (j := 8) rfl
    · exact lm_ok (b := b) (j := 20) rfl
    · exact lm_ok (b := b) (j := 13) rfl
    · exact lm_ok (b := b) (j := 14) rfl
    · exact lm_ok (b := b) (j := 24) rfl
    · exact lm_ok (b := b) (j := 25) rfl
  · intro q hq
    simp only [ARRI, List.mem_cons, List.not_mem_nil, or_false] at hq
    rcases hq with rfl | rfl | rfl
    · have z := lm_aI (b := b) (s := 421) (c := kZ cs dE b) (cs := cs) (j := 15) (m := 8) (f := fun _ => 0) rfl
      exact ⟨z.1, z.2.1⟩
    · have z := lm_aI (b := b) (s := 421) (c := kZ cs dE b) (cs := cs) (j := 16) (m := 8) (f := fun _ => 0) rfl
      exact ⟨z.1, z.2.1⟩
    · have z := lm_aI (b := b) (s := 421) (c := kZ cs dE b) (cs := cs) (j := 18) (m := 10) (f := fun _ => 0) rfl
      exact ⟨z.1, z.2.1⟩
  · intro q hq
    simp only [ARRQ, List.mem_cons, List.not_mem_nil, or_false] at hq
    rcases hq with rfl | rfl
    · exact lm_aQ (b := b) (s := 421) (c := kZ cs dE b) (cs := cs) (j := 11) (t := 3) (m := 200) (f := fun _ => none) rfl
    · exact lm_aQ (b := b) (s := 421) (c := kZ cs dE b) (cs := cs) (j := 12) (t := 4) (m := 40) (f := fun _ => none) rfl
  · intro q hq
    simp only [ONLY, List.mem_cons, List.not_mem_nil, or_false] at hq
    rcases hq with rfl | rfl | rfl | rfl | rfl
    · intro a ci k ho h hq
      replace hq : cQ (MZ cs dE b) a k = some (b + 15) := hq
      rcases own_c ho h hq with ⟨rfl, rfl, rfl, e⟩ | ⟨rfl, rfl, rfl, e⟩ | ⟨rfl, rfl, rfl, e⟩ | ⟨rfl, rfl, rfl, e⟩ | ⟨rfl, rfl, rfl, e⟩ | ⟨rfl, rfl, rfl, e⟩ | ⟨rfl, rfl, rfl, e⟩ | ⟨rfl, rfl, rfl, e⟩ | ⟨rfl, rfl, rfl, e⟩ | ⟨rfl, rfl, rfl, e⟩ | ⟨rfl, rfl, rfl, e⟩ | ⟨rfl, rfl, rfl, e⟩ | ⟨rfl, rfl, rfl, e⟩ | ⟨rfl, rfl, rfl, e⟩ <;> first | (exfalso; omega) | (dsimp only; decide)
    · intro a ci k ho h hq
      replace hq : cQ (MZ cs dE b) a k = some (b + 16) := hq
      rcases own_c ho h hq with ⟨rfl, rfl, rfl, e⟩ | ⟨rfl, rfl, rfl, e⟩ | ⟨rfl, rfl, rfl, e⟩ | ⟨rfl, rfl, rfl, e⟩ | ⟨rfl, rfl, rfl, e⟩ | ⟨rfl, rfl, rfl, e⟩ | ⟨rfl, rfl, rfl, e⟩ | ⟨rfl, rfl, rfl, e⟩ | ⟨rfl, rfl, rfl, e⟩ | ⟨rfl, rfl, rfl, e⟩ | ⟨rfl, rfl, rfl, e⟩ | ⟨rfl, rfl, rfl, e⟩ | ⟨rfl, rfl, rfl, e⟩ | ⟨rfl, rfl, rfl, e⟩ <;> first | (exfalso; omega) | (dsimp only; decide)
    · intro a ci k ho h hq
      replace hq : cQ (MZ cs dE b) a k = some (b + 18) := hq
      rcases own_c ho h hq with ⟨rfl, rfl, rfl, e⟩ | ⟨rfl, rfl, rfl, e⟩ | ⟨rfl, rfl, rfl, e⟩ | ⟨rfl, rfl, rfl, e⟩ | ⟨rfl, rfl, rfl, e⟩ | ⟨rfl, rfl, rfl, e⟩ | ⟨rfl, rfl, rfl, e⟩ | ⟨rfl, rfl, rfl, e⟩ | ⟨rfl, rfl, rfl, e⟩ | ⟨rfl, rfl, rfl, e⟩ | ⟨rfl, rfl, rfl, e⟩ | ⟨rfl, rfl, rfl, e⟩ | ⟨rfl, rfl, rfl, e⟩ | ⟨rfl, rfl, rfl, e⟩ <;> first | (exfalso; omega) | (dsimp only; decide)
    · intro a ci k ho h hq
      replace hq : cQ (MZ cs dE b) a k = some (b + 11) := hq
      rcases own_c ho h hq with ⟨rfl, rfl, rfl, e⟩ | ⟨rfl, rfl, rfl, e⟩ | ⟨rfl, rfl, rfl, e⟩ | ⟨rfl, rfl, rfl, e⟩ | ⟨rfl, rfl, rfl, e⟩ | ⟨rfl, rfl, rfl, e⟩ | ⟨rfl, rfl, rfl, e⟩ | ⟨rfl, rfl, rfl, e⟩ | ⟨rfl, rfl, rfl, e⟩ | ⟨rfl, rfl, rfl, e⟩ | ⟨rfl, rfl, rfl, e⟩ | ⟨rfl, rfl, rfl, e⟩ | ⟨rfl, rfl, rfl, e⟩ | ⟨rfl, rfl, rfl, e⟩ <;> first | (exfalso; omega) | (dsimp only; decide)
    · intro a ci k ho h hq
      replace hq : cQ (MZ cs dE b) a k = some (b + 12) := hq
      rcases own_c ho h hq with ⟨rfl, rfl, rfl, e⟩ | ⟨rfl, rfl, rfl, e⟩ | ⟨rfl, rfl, rfl, e⟩ | ⟨rfl, rfl, rfl, e⟩ | ⟨rfl, rfl, rfl, e⟩ | ⟨rfl, rfl, rfl, e⟩ | ⟨rfl, rfl, rfl, e⟩ | ⟨rfl, rfl, rfl, e⟩ | ⟨rfl, rfl, rfl, e⟩ | ⟨rfl, rfl, rfl, e⟩ | ⟨rfl, rfl, rfl, e⟩ | ⟨rfl, rfl, rfl, e⟩ | ⟨rfl, rfl, rfl, e⟩ | ⟨rfl, rfl, rfl, e⟩ <;> first | (exfalso; omega) | (dsimp only; decide)
  · intro a b' ci k ho h hq
    show b' < b + 26
    rcases own_c ho h hq with ⟨rfl, rfl, rfl, e⟩ | ⟨rfl, rfl, rfl, e⟩ | ⟨rfl, rfl, rfl, e⟩ | ⟨rfl, rfl, rfl, e⟩ | ⟨rfl, rfl, rfl, e⟩ | ⟨rfl, rfl, rfl, e⟩ | ⟨rfl, rfl, rfl, e⟩ | ⟨rfl, rfl, rfl, e⟩ | ⟨rfl, rfl, rfl, e⟩ | ⟨rfl, rfl, rfl, e⟩ | ⟨rfl, rfl, rfl, e⟩ | ⟨rfl, rfl, rfl, e⟩ | ⟨rfl, rfl, rfl, e⟩ | ⟨rfl, rfl, rfl, e⟩ <;> omega
  · refine ⟨?_, ?_⟩
    · show [b + 2, b + 4, b + 6, b + 8, b + 20].Nodup
      simp only [List.nodup_cons, List.mem_cons, List.not_mem_nil, or_false, not_false_eq_true, List.nodup_nil, and_true]
      omega
    · show b + 24 ≠ b + 25
      omega
theorem ce_z0 (hd : dE.1 < b) : CeIs cs (MZ cs dE b) (b + 2) (fun _ => 0) 16 := by
  have z := lm_aI (b := b) (s := 421) (c := kZ cs dE b) (cs := cs) (j := 3) (m := 16) (f := fun _ => 0) rfl
  exact ⟨lm_ok (b := b) (j := 2) rfl, ⟨b + 3, (lm_cQ (b := b) (j := 2)).trans rfl, z.1, z.2.1, sole_c hd (by decide) rfl, (by show b + 3 < b + 26; omega), fun i _ => by rw [z.2.2]⟩, fun _ _ => rfl, by decide, by decide⟩
theorem ce_z1 (hd : dE.1 < b) : CeIs cs (MZ cs dE b) (b + 4) (fun _ => 0) 16 := by
  have z := lm_aI (b := b) (s := 421) (c := kZ cs dE b) (cs := cs) (j := 5) (m := 16) (f := fun _ => 0) rfl
  exact ⟨lm_ok (b := b) (j := 4) rfl, ⟨b + 5, (lm_cQ (b := b) (j := 4)).trans rfl, z.1, z.2.1, sole_c hd (by decide) rfl, (by show b + 5 < b + 26; omega), fun i _ => by rw [z.2.2]⟩, fun _ _ => rfl, by decide, by decide⟩
theorem ce_z2 (hd : dE.1 < b) : CeIs cs (MZ cs dE b) (b + 6) (fun _ => 0) 16 := by
  have z := lm_aI (b := b) (s := 421) (c := kZ cs dE b) (cs := cs) (j := 7) (m := 16) (f := fun _ => 0) rfl
  exact ⟨lm_ok (b := b) (j := 6) rfl, ⟨b + 7, (lm_cQ (b := b) (j := 6)).trans rfl, z.1, z.2.1, sole_c hd (by decide) rfl, (by show b + 7 < b + 26; omega), fun i _ => by rw [z.2.2]⟩, fun _ _ => rfl, by decide, by decide⟩
theorem ce_z3 (hd : dE.1 < b) : CeIs cs (MZ cs dE b) (b + 8) (fun _ => 0) 16 := by
  have z := lm_aI (b := b) (s := 421) (c := kZ cs dE b) (cs := cs) (j := 9) (m := 16) (f := fun _ => 0) rfl
  exact ⟨lm_ok (b := b) (j := 8) rfl, ⟨b + 9, (lm_cQ (b := b) (j := 8)).trans rfl, z.1, z.2.1, sole_c hd (by decide) rfl, (by show b + 9 < b + 26; omega), fun i _ => by rw [z.2.2]⟩, fun _ _ => rfl, by decide, by decide⟩
theorem ce_z4 (hd : dE.1 < b) : CeIs cs (MZ cs dE b) (b + 20) (fun _ => 0) 16 := by
  have z := lm_aI (b := b) (s := 421) (c := kZ cs dE b) (cs := cs) (j := 21) (m := 16) (f := fun _ => 0) rfl
  exact ⟨lm_ok (b := b) (j := 20) rfl, ⟨b + 21, (lm_cQ (b := b) (j := 20)).trans rfl, z.1, z.2.1, sole_c hd (by decide) rfl, (by show b + 21 < b + 26; omega), fun i _ => by rw [z.2.2]⟩, fun _ _ => rfl, by decide, by decide⟩
theorem ty_z (hd : dE.1 < b) : TyA cs (Az b) (MZ cs dE b) [] 64 := by
  refine ⟨((congrArg Int32.toInt (lm_cI (b := b) (s := 421) (c := kZ cs dE b) (j := 1) (k := 4))).trans rfl), fun _ => 0, fun _ => 0, fun _ => 0, fun _ => 0, 16, 16, 16, 16, ⟨ce_z0 hd, ce_z1 hd, ce_z2 hd, ce_z3 hd, ?_, by decide, ?_⟩, ?_, rfl, by decide, by decide, by decide, by decide⟩
  · intro t h1 h2
    exact absurd h2 (by show ¬ t < 3 + 0; omega)
  · intro t h1 h2
    exact absurd h2 (by show ¬ t < 3 + 0; omega)
  · intro a c ha hc
    have ha' : a < 3 := ha
    have hc' : c < 3 := hc
    unfold fitC
    constructor
    · rintro (h | h)
      · exact Or.inl h
      · omega
    · rintro (h | h)
      · exact Or.inl h
      · omega
theorem ns_z {nd cd : Nat → Nat → Int32} : NsIs (Az b) (MZ cs dE b) 0 0 0 nd cd :=
  ⟨((congrArg Int32.toInt (lm_cI (b := b) (s := 421) (c := kZ cs dE b) (j := 10) (k := 4))).trans rfl), by decide, ((congrArg Int32.toInt (lm_cI (b := b) (s := 421) (c := kZ cs dE b) (j := 10) (k := 5))).trans rfl), by decide, ((congrArg Int32.toInt (lm_cI (b := b) (s := 421) (c := kZ cs dE b) (j := 10) (k := 6))).trans rfl), by decide, fun i hi => absurd hi (Nat.not_lt_zero _), fun i hi => absurd hi (Nat.not_lt_zero _)⟩
theorem ef_z : EfIs (Az b) (MZ cs dE b) (fun _ => 0) (fun _ => 0) := fun e he => by
  have z1 := lm_aI (b := b) (s := 421) (c := kZ cs dE b) (cs := cs) (j := 15) (m := 8) (f := fun _ => 0) rfl
  have z2 := lm_aI (b := b) (s := 421) (c := kZ cs dE b) (cs := cs) (j := 16) (m := 8) (f := fun _ => 0) rfl
  exact ⟨congrFun z1.2.2 e, congrFun z2.2.2 e⟩
theorem hs_z (hd : dE.1 < b) (hl1 : b + 26 + 300000 + 208862 ≤ lim.1) (hl2 : 421 + 1264000 + 6027955 ≤ lim.2) : HS cs lim dE (Az b) 300000 1264000 103401 (fun _ => 0) 16 (fun _ => False) (fun _ => False) (MZ cs dE b) := by
  refine ⟨0, 0, 0, 0, ⟨lay_c hd, ce_z4 hd, fun a h => h.elim, fun a h => h.elim, ?_, ?_, ?_, ?_, ?_, ?_, ?_⟩, by decide, by decide, by decide, by decide, by decide, ?_, ?_⟩
  · exact ⟨lm_ok (b := b) (j := 24) rfl, ((congrArg Int32.toInt (lm_cI (b := b) (s := 421) (c := kZ cs dE b) (j := 24) (k := 1))).trans rfl), Or.inl ⟨rfl, rfl, (lm_cQ (b := b) (j := 24)).trans rfl⟩⟩
  · exact ⟨lm_ok (b := b) (j := 25) rfl, ((congrArg Int32.toInt (lm_cI (b := b) (s := 421) (c := kZ cs dE b) (j := 25) (k := 1))).trans rfl), Or.inl ⟨rfl, rfl, (lm_cQ (b := b) (j := 25)).trans rfl⟩⟩
  · intro f hf
    have e : cQ (MZ cs dE b) (b + 22) 10 = none := (lm_cQ (b := b) (j := 22)).trans rfl
    have hf' : cQ (MZ cs dE b) (b + 22) 10 = some f := hf
    rw [e] at hf'
    cases hf'
  · intro f hf
    have e : cQ (MZ cs dE b) (b + 23) 4 = none := (lm_cQ (b := b) (j := 23)).trans rfl
    have hf' : cQ (MZ cs dE b) (b + 23) 4 = some f := hf
    rw [e] at hf'
    cases hf'
  · have e : (cI (MZ cs dE b) (b + 23) 2).toInt = 0 := (congrArg Int32.toInt (lm_cI (b := b) (s := 421) (c := kZ cs dE b) (j := 23) (k := 2))).trans rfl
    show 0 ≤ (cI (MZ cs dE b) (b + 23) 2).toInt ∧ (cI (MZ cs dE b) (b + 23) 2).toInt ≤ _
    rw [e]
    decide
  · have e : (cI (MZ cs dE b) (b + 23) 3).toInt = 0 := (congrArg Int32.toInt (lm_cI (b := b) (s := 421) (c := kZ cs dE b) (j := 23) (k := 3))).trans rfl
    show 0 ≤ (cI (MZ cs dE b) (b + 23) 3).toInt ∧ (cI (MZ cs dE b) (b + 23) 3).toInt ≤ _
    rw [e]
    decide
  · refine ⟨by show dE.1 < b + 26; omega, ?_⟩
    show (if b ≤ dE.1 then _ else none) = none
    rw [if_neg (by omega)]
  · have e21 : (MZ cs dE b).2.1 = b + 26 := rfl
    rw [e21]
    omega
  · have e22 : (MZ cs dE b).2.2 = 421 := rfl
    have e0 : gs 0 = 0 := rfl
    rw [e22, e0]
    omega
theorem ma_z : cI (MZ cs dE b) (Az b).ma 4 = 0 ∧ cI (MZ cs dE b) (Az b).ma 2 = 0 ∧ (cI (MZ cs dE b) (Az b).co 2).toInt = (0 : Nat) :=
  ⟨(lm_cI (b := b) (s := 421) (c := kZ cs dE b) (j := 22) (k := 4)).trans rfl, (lm_cI (b := b) (s := 421) (c := kZ cs dE b) (j := 22) (k := 2)).trans rfl, (congrArg Int32.toInt (lm_cI (b := b) (s := 421) (c := kZ cs dE b) (j := 19) (k := 2))).trans rfl⟩
end
end
section
/-! pure rows: what changes outside region 1 doesn't touch class and reference; the start -/
def Stl (M M' : gMem) : Prop := (∀ a y, M.1 a = some y → y.1 = 1 → M'.1 a = some y) ∧ (∀ a y, M'.1 a = some y → y.1 = 1 → M.1 a = some y) ∧ (∀ a, M.1 a = none → M'.1 a ≠ none → M.2.1 ≤ a) ∧ (M.2.1 ≤ M'.2.1 ∧ M.2.2 ≤ M'.2.2) ∧ (MOk M')
theorem Stl.to {M M' : gMem} (self : Stl M M') : ∀ a y, M.1 a = some y → y.1 = 1 → M'.1 a = some y := self.1
theorem Stl.from_ {M M' : gMem} (self : Stl M M') : ∀ a y, M'.1 a = some y → y.1 = 1 → M.1 a = some y := self.2.1
theorem Stl.fresh {M M' : gMem} (self : Stl M M') : ∀ a, M.1 a = none → M'.1 a ≠ none → M.2.1 ≤ a := self.2.2.1
theorem Stl.sz {M M' : gMem} (self : Stl M M') : M.2.1 ≤ M'.2.1 ∧ M.2.2 ≤ M'.2.2 := self.2.2.2.1
theorem Stl.ok {M M' : gMem} (self : Stl M M') : MOk M' := self.2.2.2.2
section
variable {cs : Nat → ClassId} {lim dE : Nat × Nat} {A : Ad} {M M' M2 : gMem} {q b : Nat} {σ : mSt} {τ : TT} {N C R : Nat}
theorem Stl.rf (h : MOk M) : Stl M M := ⟨fun _ _ h _ => h, fun _ _ h _ => h, fun _ h g => (g h).elim, ⟨Nat.le_refl _, Nat.le_refl _⟩, h⟩
theorem Stl.trans (h : Stl M M') (g : Stl M' M2) : Stl M M2 :=
  ⟨fun a y h1 h2 => g.to a y (h.to a y h1 h2) h2, fun a y h1 h2 => h.from_ a y (g.from_ a y h1 h2) h2, fun a h1 h2 => by
    by_cases z : M'.1 a = none
    · exact Nat.le_trans h.sz.1 (g.fresh a z h2)
    · exact h.fresh a h1 z, ⟨Nat.le_trans h.sz.1 g.sz.1, Nat.le_trans h.sz.2 g.sz.2⟩, g.ok⟩
/-- a cell outside region 1 is written -/
theorem Stl.put (h : MOk M) {a : Nat} {x y : Nat × va_E} (ha : M.1 a = some x) (hx : x.1 ≠ 1) (hy : y.1 ≠ 1) : Stl M (gup M a y) := by
  refine ⟨fun c z h1 h2 => ?_, fun c z h1 h2 => ?_, fun c h1 h2 => ?_, ⟨Nat.le_refl _, Nat.le_refl _⟩, h.gup ha⟩
  · rw [gup_n (fun e => by subst e; rw [ha] at h1; cases h1; exact hx h2)]
    exact h1
  · rcases gup_of h1 with ⟨-, rfl⟩ | ⟨-, g⟩
    · exact (hy h2).elim
    · exact g
  · exfalso
    apply h2
    rw [gup_n (fun e => by subst e; rw [ha] at h1; cases h1)]
    exact h1
/-- a new cell outside region 1 -/
theorem Stl.new (h : MOk M) {x : Nat × va_E} {n : Nat} (hx : x.1 ≠ 1) : Stl M (gnw M x n) := by
  have hn := h M.2.1 (Nat.le_refl _)
  refine ⟨fun c z h1 h2 => ?_, fun c z h1 h2 => ?_, fun c h1 h2 => ?_, ⟨Nat.le_succ _, Nat.le_add_right _ _⟩, fun c hc => ?_⟩
  · rw [gnw_n (fun e => by subst e; rw [hn] at h1; cases h1)]
    exact h1
  · by_cases e : c = M.2.1
    · subst e
      rw [gnw_s] at h1
      cases h1
      exact (hx h2).elim
    · rw [gnw_n e] at h1
      exact h1
  · by_cases e : c = M.2.1
    · rw [e]; exact Nat.le_refl _
    · rw [gnw_n e] at h2
      exact (h2 h1).elim
  · have hc' : M.2.1 + 1 ≤ c := hc
    rw [gnw_n (by omega)]
    exact h c (by omega)
theorem Stl.xcOk (h : Stl M M') {ci a : Nat} (ho : cOk ci M' a) : cOk ci M a ∧ ∀ k, cQ M' a k = cQ M a k := by
  obtain ⟨fs, h1, h2⟩ := ho
  have h3 := h.from_ a _ h1 rfl
  refine ⟨⟨fs, h3, h2⟩, fun k => ?_⟩
  unfold cQ
  rw [cO_of h1, cO_of h3]
theorem Stl.ext (h : Stl M M') : Ext [(99, 0)] [] true M M' := by
  refine ⟨fun w => (w List.mem_cons_self).elim, fun a ci fs hx => ⟨fs, h.to a _ hx rfl, fun z => z, fun _ _ => rfl⟩, fun c cA n f hx => ⟨f, h.to c _ hx rfl, fun _ => rfl⟩, fun c cA n f hx => ⟨f, h.to c _ hx rfl, fun _ => rfl⟩, ⟨h.sz.1, h.sz.2, fun z => by cases z⟩, h.fresh, fun a c ci k _ ho hq _ => ?_, fun a c ci k _ ho hq => Or.inr ?_, h.ok⟩
  · obtain ⟨h1, h2⟩ := h.xcOk ho
    exact ⟨h1, by rw [← h2 k]; exact hq⟩
  · obtain ⟨h1, h2⟩ := h.xcOk ho
    exact ⟨h1, by rw [← h2 k]; exact hq⟩
theorem KC.still (k : KC cs lim dE A q τ M) (h : Stl M M') (s1 : M'.2.1 ≤ M.2.1) (s2 : M'.2.2 ≤ M.2.2) : KC cs lim dE A q τ M' := by
  have e := h.ext
  obtain ⟨r1, r2, g4, k4, K, Fs, Ts, hh, t, b1, b2, b3⟩ := k.hs
  have L := hh.lay
  have c4 := hh.c4.ext e (by decide) (by decide)
  refine ⟨⟨r1, r2, g4, k4, K, Fs, Ts, hh.step e (by decide) (by decide) c4 (by omega) (by omega), t.ext L e (by decide) (by decide) (by decide), b1, b2, b3⟩, ?_, ?_⟩
  · have e4 : cI M' A.ma 4 = cI M A.ma 4 := e.xcI L.ma_0.1 (by decide)
    rw [e4]
    rcases k.mb with z | z
    · exact Or.inl z
    · exact Or.inr (z.ext L e (by decide))
  · have e2 : cI M' A.co 2 = cI M A.co 2 := e.xcI L.co_0.1 (by decide)
    rw [e2]
    exact k.co
theorem JC.still (J : JC cs lim dE A q σ τ N C R M) (h : Stl M M') (s1 : M'.2.1 ≤ M.2.1) (s2 : M'.2.2 ≤ M.2.2) : JC cs lim dE A q σ τ N C R M' := by
  have L := J.lay
  have e := h.ext
  refine ⟨J.kc.still h s1 s2, J.ns.ext L e (by decide) (by decide) (by decide), J.ef.ext L e (by decide), J.rows, J.len, J.tx, J.moi, J.hrow, ?_⟩
  rw [e.xcI L.ma_0.1 (by decide)]
  exact J.ld
theorem JX.still (J : JX cs lim dE A q σ M) (h : Stl M M') (s : M'.2 = M.2) : JX cs lim dE A q σ M' := by
  obtain ⟨τ, N, C, R, J⟩ := J
  exact ⟨τ, N, C, R, J.still h (by rw [s]; exact Nat.le_refl _) (by rw [s]; exact Nat.le_refl _)⟩
theorem JX.mok (J : JX cs lim dE A q σ M) : MOk M := by
  obtain ⟨τ, N, C, R, J⟩ := J
  exact J.lay.mok
theorem JX.x0 (J : JX cs lim dE A q σ M) : cOk 0 M A.x := by
  obtain ⟨τ, N, C, R, J⟩ := J
  exact J.lay.x_ty.1
theorem JX.less (J : JX cs lim dE A (q + 1) σ M) : JX cs lim dE A q σ M := by
  obtain ⟨τ, N, C, R, J⟩ := J
  exact ⟨τ, N, C, R, J.kc.less, J.ns, J.ef, J.rows, J.len, J.tx, J.moi, J.hrow, J.ld⟩
/-- the start: the class's object, then other cells -/
theorem JX.start (hd : dE.1 < b) (hl1 : b + 26 + 300000 + 208862 ≤ lim.1) (hl2 : 421 + 1264000 + 6027955 ≤ lim.2) (h : Stl (MZ cs dE b) M') (s1 : M'.2.1 ≤ b + 1000) (s2 : M'.2.2 ≤ 1060000) (hB : Tbits σ) : JX cs lim dE (Az b) 512 (F_Mo_clear 9 σ) M' := by
  have e := h.ext
  obtain ⟨-, mi⟩ := MoI.clear (σ := σ) hB (n := 9) (by omega)
  obtain ⟨-, tk, nk, -, z36, z46⟩ := clear_ok (σ := σ) hB (n := 9) (by omega)
  have ef := clear_ef (σ := σ) (n := 9) (by omega)
  have hh := hs_z (cs := cs) (lim := lim) (dE := dE) (b := b) hd hl1 hl2
  have L := hh.lay
  have t := ty_z (cs := cs) (dE := dE) (b := b) hd
  obtain ⟨m4, m2, c2⟩ := ma_z (cs := cs) (dE := dE) (b := b)
  have c4 := hh.c4.ext e (by decide) (by decide)
  have e21 : (MZ cs dE b).2.1 = b + 26 := rfl
  have e22 : (MZ cs dE b).2.2 = 421 := rfl
  have kc : KC cs lim dE (Az b) 512 [] M' := by
    refine ⟨⟨290000, 200000, _, 16, 64, _, _, hh.step e (by decide) (by decide) c4 (by rw [e21]; omega) (by rw [e22]; omega), t.ext L e (by decide) (by decide) (by decide), by omega, by omega, by omega⟩, Or.inl ?_, 0, ?_⟩
    · rw [e.xcI L.ma_0.1 (by decide)]; exact m4
    · rw [e.xcI L.co_0.1 (by decide)]; exact c2
  refine ⟨[], 0, 0, 0, kc, ns_z.ext L e (by decide) (by decide) (by decide), ?_, (fun x hx => absurd hx List.not_mem_nil), by decide, ⟨tk, fun t h1 h2 => absurd h2 (by show ¬ t < 3 + 0; omega), fun t h1 h2 => absurd h2 (by show ¬ t < 3 + 0; omega), fun t h1 h2 => absurd h2 (by show ¬ t < 3 + 0; omega)⟩, mi, fun i hi => absurd hi (Nat.not_lt_zero _), ?_⟩
  · have w := (ef_z (cs := cs) (dE := dE) (b := b)).ext L e (by decide)
    intro i hi
    rw [(ef i hi).1, (ef i hi).2]
    exact w i hi
  · rw [e.xcI L.ma_0.1 (by decide), m2, z36]
    exact ⟨fun _ => rfl, fun _ => rfl⟩
end
end
