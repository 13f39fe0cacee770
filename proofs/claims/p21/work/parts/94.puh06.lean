-- pure rows: HJ
section
/-! pure rows, the class: frames and things are taken -/
theorem FsO.le {fa fa' : Nat → Nat} {nf nf' z : Nat} (h : FsO fa nf z) (hn : nf ≤ nf') (he : ∀ i, i < nf → fa' i = fa i) : FsO fa' nf' z := by
  obtain ⟨i, h1, h2⟩ := h
  exact ⟨i, by omega, by rw [he i h1]; exact h2⟩
/-- one more at the end -/
def snoc (fa : Nat → Nat) (n f : Nat) : Nat → Nat := fun i => if i = n then f else fa i
theorem FsO_snoc (fa : Nat → Nat) (n f : Nat) : FsO (snoc fa n f) (n + 1) = fun z => FsO fa n z ∨ z = f := by
  funext z
  apply propext
  constructor
  · rintro ⟨i, h1, h2⟩
    unfold snoc at h2
    by_cases q : i = n
    · rw [if_pos q] at h2; exact Or.inr h2.symm
    · rw [if_neg q] at h2; exact Or.inl ⟨i, by omega, h2⟩
  · rintro (⟨i, h1, h2⟩ | h)
    · exact ⟨i, by omega, by unfold snoc; rw [if_neg (by omega)]; exact h2⟩
    · exact ⟨n, by omega, by unfold snoc; rw [if_pos rfl]; exact h.symm⟩
theorem LiJ.imp {cs : Nat → ClassId} {dE : Nat × Nat} {M : gMem} {a sz n : Nat} {P Q : Nat → Nat → Prop} (h : LiJ cs dE M a P sz n) (hi : ∀ i z, i < sz → P i z → Q i z) : LiJ cs dE M a Q sz n :=
  ⟨h.ok, h.siz, h.ref.imp id (fun ⟨n', b, g1, g2, g3⟩ => ⟨n', b, g1, g2, ⟨g3.ok, g3.len, g3.le, g3.sole, g3.lt, fun i hi' => by obtain ⟨y, y1, y2⟩ := g3.el i hi'; exact ⟨y, y1, hi i y hi' y2⟩, g3.no⟩⟩)⟩
theorem LiJ.li {cs : Nat → ClassId} {dE : Nat × Nat} {M : gMem} {a sz n : Nat} {P : Nat → Nat → Prop} {Q : Nat → Prop} (h : LiJ cs dE M a P sz n) (hi : ∀ i z, i < sz → P i z → Q z) : LiI cs dE M a Q sz n :=
  ⟨h.ok, h.siz, h.ref.imp id (fun ⟨n', b, g1, g2, g3⟩ => ⟨n', b, g1, g2, ⟨g3.ok, g3.len, g3.le, g3.sole, g3.lt, fun i hi' => by obtain ⟨y, y1, y2⟩ := g3.el i hi'; exact ⟨y, y1, hi i y hi' y2⟩, g3.no⟩⟩)⟩
/-- a list that isn't added to -/
theorem LiJ.other {cs : Nat → ClassId} {dE : Nat × Nat} {M M' : gMem} {a a' sz n n' nf : Nat} {P Q : Nat → Nat → Prop} (h : LiJ cs dE M a' Q sz n') (hM : MOk M) (de : M.1 dE.1 = none) (hne : a' ≠ a) (l : LiJ cs dE M a P nf n) (e : Ext [(13, 0), (13, 1), (13, 2)] [(13, 0)] true M M') (fr : ∀ c, c ≠ a → cQ M a 0 ≠ some c → c < M.2.1 → M'.1 c = M.1 c) : LiJ cs dE M' a' Q sz n' := by
  have na : ∀ {ci c : Nat}, cOk ci M c → cQ M a 0 ≠ some c := fun hc hq => by
    rcases l.ref with ⟨-, -, g⟩ | ⟨m, b, -, g, g3⟩
    · rw [g] at hq
      cases hq
      obtain ⟨fs, e1, -⟩ := hc
      rw [de] at e1
      cases e1
    · rw [g] at hq
      cases hq
      exact hc.notQ g3.ok
  have e1 : M'.1 a' = M.1 a' := fr a' hne (na h.ok) (h.ok.lt hM)
  refine ⟨(cOk_cong e1).mpr h.ok, by rw [cI_cong e1]; exact h.siz, ?_⟩
  rw [cQ_cong e1]
  rcases h.ref with g | ⟨m, b, g1, g2, g3⟩
  · exact Or.inl g
  · refine Or.inr ⟨m, b, g1, g2, ?_⟩
    have hb : M'.1 b = M.1 b := by
      refine fr b (fun q => ?_) (fun q => ?_) g3.lt
      · subst q; exact l.ok.notQ g3.ok
      · have := g3.sole a 13 0 (by decide) l.ok q
        exact hne this.2.2.symm
    obtain ⟨z1, z2, z3⟩ := g3.ok
    exact ⟨⟨z1, z2, by rw [hb]; exact z3⟩, by rw [aL_cong hb]; exact g3.len, g3.le, g3.sole.ext e g3.lt, Nat.lt_of_lt_of_le g3.lt e.sz.1, by rw [aQ_cong hb]; exact g3.el, by rw [aQ_cong hb]; exact g3.no⟩
section
variable {Fs Ts : Nat → Prop} {kf kt : Nat} {cs : Nat → ClassId} {lim dE : Nat × Nat} {A : Ad} {r1 r2 NF : Nat} {g4 : Nat → Int32} {k4 : Nat} {fa ta : Nat → Nat} {nf nt : Nat} {M M' : gMem} {w w' : Vw} {a b c t n ci k H K u v : Nat}
/-- a new frame, with an array of its own -/
theorem fr_init2 (h : HTL cs dE A Fs Ts nf nt kf kt g4 k4 M) (hl1 : M.2.1 + 2 ≤ lim.1) (hl2 : M.2.2 + 55 ≤ lim.2) :
    S_Fr_init cs lim (gnw M (1, .inr (10, [.null, .int 0, .int 0, .null, .null])) 5) M.2.1 ∧ ∃ M2, F_Fr_init cs (gnw M (1, .inr (10, [.null, .int 0, .int 0, .null, .null])) 5) M.2.1 = M2 ∧ HTL cs dE A (fun z => Fs z ∨ z = M.2.1) Ts nf nt kf kt g4 k4 M2 ∧ M2.2 = (M.2.1 + 2, M.2.2 + 55) ∧ (∀ c, c < M.2.1 → M2.1 c = M.1 c) ∧ Ext [] [] true M M2 ∧ SoA M2 10 M.2.1 := by
  have hM := h.lay.mok
  generalize hf : M.2.1 = f
  have s0 : (gnw M (1, .inr (10, [.null, .int 0, .int 0, .null, .null])) 5).2 = (f + 1, M.2.2 + 5) := by rw [← hf]; rfl
  have m0 : ∀ c, c ≠ f → (gnw M (1, .inr (10, [.null, .int 0, .int 0, .null, .null])) 5).1 c = M.1 c := fun c hc => gnw_n (by rw [hf]; exact hc)
  have f0 : (gnw M (1, .inr (10, [.null, .int 0, .int 0, .null, .null])) 5).1 f = some (1, .inr (10, [.null, .int 0, .int 0, .null, .null])) := by rw [← hf]; exact gnw_s
  have cw : cwt 10 [.null, .int 0, .int 0, .null, .null] := by
    refine ⟨rfl, fun k hk => ?_⟩
    have : k = 0 ∨ k = 1 ∨ k = 2 ∨ k = 3 ∨ k = 4 := by
      have : k < 5 := hk
      omega
    rcases this with rfl | rfl | rfl | rfl | rfl
    · exact ⟨fun _ => ⟨none, rfl⟩, fun z => absurd rfl z⟩
    · exact ⟨fun z => absurd z (by decide), fun _ => ⟨0, rfl⟩⟩
    · exact ⟨fun z => absurd z (by decide), fun _ => ⟨0, rfl⟩⟩
    · exact ⟨fun _ => ⟨none, rfl⟩, fun z => absurd rfl z⟩
    · exact ⟨fun _ => ⟨none, rfl⟩, fun z => absurd rfl z⟩
  generalize gnw M (1, .inr (10, [.null, .int 0, .int 0, .null, .null])) 5 = M0 at s0 m0 f0 ⊢
  have t50 : (50 : Int32).toNatClampNeg = 50 := by decide
  unfold S_Fr_init F_Fr_init
  simp only [t50]
  have s1 : (gnw M0 (1, .inl (cs 0, 50, .inl (fun _ => 0))) 50).2 = (f + 2, M.2.2 + 55) := by
    show (M0.2.1 + 1, M0.2.2 + 50) = _
    rw [s0]
  have e0 : M0.2.1 = f + 1 := by rw [s0]
  have m1 : ∀ c, c ≠ f + 1 → (gnw M0 (1, .inl (cs 0, 50, .inl (fun _ => 0))) 50).1 c = M0.1 c := fun c hc => gnw_n (by rw [e0]; exact hc)
  have b1 : (gnw M0 (1, .inl (cs 0, 50, .inl (fun _ => 0))) 50).1 (f + 1) = some (1, .inl (cs 0, 50, .inl (fun _ => 0))) := by rw [← e0]; exact gnw_s
  generalize gnw M0 (1, .inl (cs 0, 50, .inl (fun _ => 0))) 50 = M1 at s1 m1 b1 ⊢
  have f1 : M1.1 f = some (1, .inr (10, [.null, .int 0, .int 0, .null, .null])) := by rw [m1 f (by omega)]; exact f0
  have o1 : cOk 10 M1 f := ⟨_, f1, cw⟩
  have o2 : cOk 10 (cP 10 M1 f 0 (va_rf (some M0.2.1))) f := cOk_put (fun _ => ⟨_, rfl⟩) (fun z => (z (by decide)).elim) o1 o1
  have o3 : cOk 10 (cP 10 (cP 10 M1 f 0 (va_rf (some M0.2.1))) f 1 (.int 10)) f := cOk_putI (by decide) o2 o2
  have g1 : (cP 10 (cP 10 M1 f 0 (va_rf (some M0.2.1))) f 1 (.int 10)).1 f = some (1, .inr (10, [.ref (f + 1), .int 10, .int 0, .null, .null])) := by
    unfold cP
    rw [gup_s, cO_gup, cO_of f1, e0]
    rfl
  have n3 : ∀ c, c ≠ f → (cP 10 (cP 10 M1 f 0 (va_rf (some M0.2.1))) f 1 (.int 10)).1 c = M1.1 c := fun c hc => by
    unfold cP
    rw [gup_n hc, gup_n hc]
  have s3 : (cP 10 (cP 10 M1 f 0 (va_rf (some M0.2.1))) f 1 (.int 10)).2 = (f + 2, M.2.2 + 55) := s1
  suffices key : HTL cs dE A (fun z => Fs z ∨ z = f) Ts nf nt kf kt g4 k4 (cP 10 (cP 10 M1 f 0 (va_rf (some M0.2.1))) f 1 (.int 10)) ∧ Ext [] [] true M (cP 10 (cP 10 M1 f 0 (va_rf (some M0.2.1))) f 1 (.int 10)) ∧ SoA (cP 10 (cP 10 M1 f 0 (va_rf (some M0.2.1))) f 1 (.int 10)) 10 f  by
    exact ⟨⟨⟨⟨by decide, by decide⟩, by rw [e0]; omega, by rw [s0]; show M.2.2 + 5 + 50 ≤ _; omega⟩, o1, o2, trivial⟩, _, rfl, key.1, s3, fun c hc => by rw [n3 c (by omega), m1 c (by omega), m0 c (by omega)], key.2.1, key.2.2⟩
  generalize cP 10 (cP 10 M1 f 0 (va_rf (some M0.2.1))) f 1 (.int 10) = M2 at o3 g1 n3 s3 ⊢
  have low : ∀ c, c < M.2.1 → M2.1 c = M.1 c := fun c hc => by rw [n3 c (by omega), m1 c (by omega), m0 c (by omega)]
  have hi : ∀ c, f + 2 ≤ c → M2.1 c = none := fun c hc => by rw [n3 c (by omega), m1 c (by omega), m0 c (by omega)]; exact hM c (by omega)
  have b2 : M2.1 (f + 1) = some (1, .inl (cs 0, 50, .inl (fun _ => 0))) := by rw [n3 _ (by omega)]; exact b1
  have cf : cO M2 f = [.ref (f + 1), .int 10, .int 0, .null, .null] := cO_of g1
  have e : Ext [] [] true M M2 := by
    refine Ext.fresh2 hM low (by rw [s3, hf]; show f ≤ f + 2; omega) (by rw [s3]; show M.2.2 ≤ M.2.2 + 55; omega) (fun c hc => hi c (by rw [s3] at hc; exact hc)) ?_
    intro c ci k b hc hk ho hq
    rw [s3]
    show M.2.1 ≤ b ∧ b < f + 2
    by_cases q : c = f
    · subst q
      have := ho.uniq o3
      subst this
      have := own10 hk
      subst this
      unfold cQ at hq
      rw [cf] at hq
      cases hq
      omega
    · exfalso
      obtain ⟨fs, e1, -⟩ := ho
      by_cases q2 : c = f + 1
      · subst q2
        rw [b2] at e1
        cases e1
      · rw [hi c (by omega)] at e1
        cases e1
  have h2 := h.ext e (by decide) (by decide)
  refine ⟨?_, e, f + 1, by unfold cQ; rw [cf]; rfl, fun a' ci' k' hk ho hq => ?_, by rw [s3]; show f + 1 < f + 2; omega⟩
  rotate_left
  · by_cases q : a' = f
    · subst q
      have := ho.uniq o3
      subst this
      exact ⟨rfl, own10 hk, rfl⟩
    · exfalso
      by_cases q2 : a' < M.2.1
      · have := h.lay.bnd a' (f + 1) ci' k' hk ((cOk_cong (low a' q2)).mp ho) (by rw [← cQ_cong (low a' q2)]; exact hq)
        omega
      · obtain ⟨fs, e1, -⟩ := ho
        by_cases q3 : a' = f + 1
        · subst q3
          rw [b2] at e1
          cases e1
        · rw [hi a' (by omega)] at e1
          cases e1
  refine h2.addF ⟨o3, ⟨f + 1, by unfold cQ; rw [cf]; rfl, ⟨_, _, b2⟩, (aI_of b2).1⟩, by unfold cI; rw [cf]; show 10 ≤ (10 : Int32).toInt ∧ (10 : Int32).toInt ≤ 50; decide, fun z hz => ?_, fun z hz => ?_⟩
  · unfold cQ at hz; rw [cf] at hz; cases hz
  · unfold cQ at hz; rw [cf] at hz; cases hz
theorem th_init2 (h : HTL cs dE A Fs Ts nf nt kf kt g4 k4 M) (hl1 : M.2.1 + 2 ≤ lim.1) (hl2 : M.2.2 + 17 ≤ lim.2) :
    S_Th_init cs lim (gnw M (1, .inr (11, [.null, .int 0, .int 0, .int 0, .null, .null, .int 0])) 7) M.2.1 ∧ ∃ M2, F_Th_init cs (gnw M (1, .inr (11, [.null, .int 0, .int 0, .int 0, .null, .null, .int 0])) 7) M.2.1 = M2 ∧ HTL cs dE A Fs (fun z => Ts z ∨ z = M.2.1) nf nt kf kt g4 k4 M2 ∧ M2.2 = (M.2.1 + 2, M.2.2 + 17) ∧ (∀ c, c < M.2.1 → M2.1 c = M.1 c) ∧ Ext [] [] true M M2 ∧ SoA M2 11 M.2.1 := by
  have hM := h.lay.mok
  generalize hf : M.2.1 = f
  have s0 : (gnw M (1, .inr (11, [.null, .int 0, .int 0, .int 0, .null, .null, .int 0])) 7).2 = (f + 1, M.2.2 + 7) := by rw [← hf]; rfl
  have m0 : ∀ c, c ≠ f → (gnw M (1, .inr (11, [.null, .int 0, .int 0, .int 0, .null, .null, .int 0])) 7).1 c = M.1 c := fun c hc => gnw_n (by rw [hf]; exact hc)
  have f0 : (gnw M (1, .inr (11, [.null, .int 0, .int 0, .int 0, .null, .null, .int 0])) 7).1 f = some (1, .inr (11, [.null, .int 0, .int 0, .int 0, .null, .null, .int 0])) := by rw [← hf]; exact gnw_s
  have cw : cwt 11 [.null, .int 0, .int 0, .int 0, .null, .null, .int 0] := by
    refine ⟨rfl, fun k hk => ?_⟩
    have : k = 0 ∨ k = 1 ∨ k = 2 ∨ k = 3 ∨ k = 4 ∨ k = 5 ∨ k = 6 := by
      have : k < 7 := hk
      omega
    rcases this with rfl | rfl | rfl | rfl | rfl | rfl | rfl
    · exact ⟨fun _ => ⟨none, rfl⟩, fun z => absurd rfl z⟩
    · exact ⟨fun z => absurd z (by decide), fun _ => ⟨0, rfl⟩⟩
    · exact ⟨fun z => absurd z (by decide), fun _ => ⟨0, rfl⟩⟩
    · exact ⟨fun z => absurd z (by decide), fun _ => ⟨0, rfl⟩⟩
    · exact ⟨fun _ => ⟨none, rfl⟩, fun z => absurd rfl z⟩
    · exact ⟨fun _ => ⟨none, rfl⟩, fun z => absurd rfl z⟩
    · exact ⟨fun z => absurd z (by decide), fun _ => ⟨0, rfl⟩⟩
  generalize gnw M (1, .inr (11, [.null, .int 0, .int 0, .int 0, .null, .null, .int 0])) 7 = M0 at s0 m0 f0 ⊢
  have t10 : (10 : Int32).toNatClampNeg = 10 := by decide
  unfold S_Th_init F_Th_init
  simp only [t10]
  have s1 : (gnw M0 (1, .inl (cs 0, 10, .inl (fun _ => 0))) 10).2 = (f + 2, M.2.2 + 17) := by
    show (M0.2.1 + 1, M0.2.2 + 10) = _
    rw [s0]
  have e0 : M0.2.1 = f + 1 := by rw [s0]
  have m1 : ∀ c, c ≠ f + 1 → (gnw M0 (1, .inl (cs 0, 10, .inl (fun _ => 0))) 10).1 c = M0.1 c := fun c hc => gnw_n (by rw [e0]; exact hc)
  have b1 : (gnw M0 (1, .inl (cs 0, 10, .inl (fun _ => 0))) 10).1 (f + 1) = some (1, .inl (cs 0, 10, .inl (fun _ => 0))) := by rw [← e0]; exact gnw_s
  generalize gnw M0 (1, .inl (cs 0, 10, .inl (fun _ => 0))) 10 = M1 at s1 m1 b1 ⊢
  have f1 : M1.1 f = some (1, .inr (11, [.null, .int 0, .int 0, .int 0, .null, .null, .int 0])) := by rw [m1 f (by omega)]; exact f0
  have o1 : cOk 11 M1 f := ⟨_, f1, cw⟩
  have o3 : cOk 11 (cP 11 M1 f 0 (va_rf (some M0.2.1))) f := cOk_put (fun _ => ⟨_, rfl⟩) (fun z => (z (by decide)).elim) o1 o1
  have g1 : (cP 11 M1 f 0 (va_rf (some M0.2.1))).1 f = some (1, .inr (11, [.ref (f + 1), .int 0, .int 0, .int 0, .null, .null, .int 0])) := by
    unfold cP
    rw [gup_s, cO_of f1, e0]
    rfl
  have n3 : ∀ c, c ≠ f → (cP 11 M1 f 0 (va_rf (some M0.2.1))).1 c = M1.1 c := fun c hc => by
    unfold cP
    rw [gup_n hc]
  have s3 : (cP 11 M1 f 0 (va_rf (some M0.2.1))).2 = (f + 2, M.2.2 + 17) := s1
  suffices key : HTL cs dE A Fs (fun z => Ts z ∨ z = f) nf nt kf kt g4 k4 (cP 11 M1 f 0 (va_rf (some M0.2.1))) ∧ Ext [] [] true M (cP 11 M1 f 0 (va_rf (some M0.2.1))) ∧ SoA (cP 11 M1 f 0 (va_rf (some M0.2.1))) 11 f by
    exact ⟨⟨⟨⟨by decide, by decide⟩, by rw [e0]; omega, by rw [s0]; show M.2.2 + 7 + 10 ≤ _; omega⟩, o1, trivial⟩, _, rfl, key.1, s3, fun c hc => by rw [n3 c (by omega), m1 c (by omega), m0 c (by omega)], key.2.1, key.2.2⟩
  generalize cP 11 M1 f 0 (va_rf (some M0.2.1)) = M2 at o3 g1 n3 s3 ⊢
  have low : ∀ c, c < M.2.1 → M2.1 c = M.1 c := fun c hc => by rw [n3 c (by omega), m1 c (by omega), m0 c (by omega)]
  have hi : ∀ c, f + 2 ≤ c → M2.1 c = none := fun c hc => by rw [n3 c (by omega), m1 c (by omega), m0 c (by omega)]; exact hM c (by omega)
  have b2 : M2.1 (f + 1) = some (1, .inl (cs 0, 10, .inl (fun _ => 0))) := by rw [n3 _ (by omega)]; exact b1
  have cf : cO M2 f = [.ref (f + 1), .int 0, .int 0, .int 0, .null, .null, .int 0] := cO_of g1
  have e : Ext [] [] true M M2 := by
    refine Ext.fresh2 hM low (by rw [s3, hf]; show f ≤ f + 2; omega) (by rw [s3]; show M.2.2 ≤ M.2.2 + 17; omega) (fun c hc => hi c (by rw [s3] at hc; exact hc)) ?_
    intro c ci k b hc hk ho hq
    rw [s3]
    show M.2.1 ≤ b ∧ b < f + 2
    by_cases q : c = f
    · subst q
      have := ho.uniq o3
      subst this
      have := own11 hk
      subst this
      unfold cQ at hq
      rw [cf] at hq
      cases hq
      omega
    · exfalso
      obtain ⟨fs, e1, -⟩ := ho
      by_cases q2 : c = f + 1
      · subst q2
        rw [b2] at e1
        cases e1
      · rw [hi c (by omega)] at e1
        cases e1
  have h2 := h.ext e (by decide) (by decide)
  refine ⟨?_, e, f + 1, by unfold cQ; rw [cf]; rfl, fun a' ci' k' hk ho hq => ?_, by rw [s3]; show f + 1 < f + 2; omega⟩
  rotate_left
  · by_cases q : a' = f
    · subst q
      have := ho.uniq o3
      subst this
      exact ⟨rfl, own11 hk, rfl⟩
    · exfalso
      by_cases q2 : a' < M.2.1
      · have := h.lay.bnd a' (f + 1) ci' k' hk ((cOk_cong (low a' q2)).mp ho) (by rw [← cQ_cong (low a' q2)]; exact hq)
        omega
      · obtain ⟨fs, e1, -⟩ := ho
        by_cases q3 : a' = f + 1
        · subst q3
          rw [b2] at e1
          cases e1
        · rw [hi a' (by omega)] at e1
          cases e1
  refine h2.addT ⟨o3, ⟨f + 1, by unfold cQ; rw [cf]; rfl, ⟨_, _, b2⟩, (aI_of b2).1⟩, fun z hz => ?_, fun z hz => ?_⟩
  · unfold cQ at hz; rw [cf] at hz; cases hz
  · unfold cQ at hz; rw [cf] at hz; cases hz

/-- what is read, where nothing of frames, things, machine and store is written -/
theorem Ag.ext {W V : List (Nat × Nat)} {al : Bool} (h : Ag A Fs Ts M w) (e : Ext W V al M M') (oF : ∀ a, Fs a → cOk 10 M a) (oT : ∀ a, Ts a → cOk 11 M a) (o8 : cOk 8 M A.ma) (o9 : cOk 9 M A.st) (sF : ∀ a, Fs a → SoA M 10 a) (sT : ∀ a, Ts a → SoA M 11 a) (ar : ∀ a, Fs a ∨ Ts a → ∀ b, cQ M a 0 = some b → aIk (cs 0) M b) (hW : W.all (fun x => x.1 != 8 && x.1 != 9 && x.1 != 10 && x.1 != 11) = true) (h10 : V.contains (10, 0) = false) (h11 : V.contains (11, 0) = false) : Ag A Fs Ts M' w := by
  have nw : ∀ x : Nat × Nat, (x.1 = 8 ∨ x.1 = 9 ∨ x.1 = 10 ∨ x.1 = 11) → x ∉ W := fun x hx hm => by
    have := List.all_eq_true.mp hW x hm
    simp only [Bool.and_eq_true, bne_iff_ne, ne_eq] at this
    omega
  refine ⟨fun a ha => ?_, fun a k ha => ?_⟩
  · obtain ⟨b, b1, b2⟩ := h.1 a ha
    have hb := ar a ha b b1
    refine ⟨b, ?_, fun j => ?_⟩
    · rcases ha with g | g
      · rw [e.xcQ (oF a g) (nw _ (by simp [si_1, si_2, sl_1, sl_2, sl_3, ai_1, ai_2, ai_3, ai_4, al_1, al_2, al_3, al_4, cp_1, cp_2, cp_3, cp_4]))]; exact b1
      · rw [e.xcQ (oT a g) (nw _ (by simp [si_1, si_2, sl_1, sl_2, sl_3, ai_1, ai_2, ai_3, ai_4, al_1, al_2, al_3, al_4, cp_1, cp_2, cp_3, cp_4]))]; exact b1
    · have hv : NotV V M b := by
        rcases ha with g | g
        · obtain ⟨b', c1, c2, -⟩ := sF a g
          rw [b1] at c1; cases c1; exact c2.notV h10
        · obtain ⟨b', c1, c2, -⟩ := sT a g
          rw [b1] at c1; cases c1; exact c2.notV h11
      rw [e.xaF hb hv]
      exact b2 j
  · have : ∃ ci, cOk ci M a ∧ (ci = 8 ∨ ci = 9 ∨ ci = 10 ∨ ci = 11) := by
      rcases ha with g | g | g | g
      · exact ⟨10, oF a g, by simp [si_1, si_2, sl_1, sl_2, sl_3, ai_1, ai_2, ai_3, ai_4, al_1, al_2, al_3, al_4, cp_1, cp_2, cp_3, cp_4]⟩
      · exact ⟨11, oT a g, by simp [si_1, si_2, sl_1, sl_2, sl_3, ai_1, ai_2, ai_3, ai_4, al_1, al_2, al_3, al_4, cp_1, cp_2, cp_3, cp_4]⟩
      · subst g; exact ⟨8, o8, by simp [si_1, si_2, sl_1, sl_2, sl_3, ai_1, ai_2, ai_3, ai_4, al_1, al_2, al_3, al_4, cp_1, cp_2, cp_3, cp_4]⟩
      · subst g; exact ⟨9, o9, by simp [si_1, si_2, sl_1, sl_2, sl_3, ai_1, ai_2, ai_3, ai_4, al_1, al_2, al_3, al_4, cp_1, cp_2, cp_3, cp_4]⟩
    obtain ⟨ci, o, hc⟩ := this
    rw [e.xcI o (nw (ci, k) hc), e.xcQ o (nw (ci, k) hc)]
    exact h.2 a k ha
theorem SoA.ext {W V : List (Nat × Nat)} {al : Bool} (h : SoA M ci a) (e : Ext W V al M M') (o : cOk ci M a) (hW : (ci, 0) ∉ W) : SoA M' ci a := by
  obtain ⟨b, b1, b2, b3⟩ := h
  exact ⟨b, by rw [e.xcQ o hW]; exact b1, b2.ext e b3, Nat.lt_of_lt_of_le b3 e.sz.1⟩
/-- what taking a frame leaves -/
def TkF (A : Ad) (fa : Nat → Nat) (nf u : Nat) (w w' : Vw) (f : Nat) : Prop :=
  (∀ c j, c ≠ f → w'.1 c j = w.1 c j) ∧ (∀ c k, c ≠ f → ¬ (c = A.st ∧ k = 2) → w'.2.1 c k = w.2.1 c k) ∧ (∀ c k, c ≠ f → ¬ (c = A.st ∧ k = 4) → w'.2.2 c k = w.2.2 c k) ∧ ((w.2.2 A.st 4 = some f ∧ w'.2.2 A.st 4 = w.2.2 f 4 ∧ w'.2.1 A.st 2 = w.2.1 A.st 2) ∨ (w.2.2 A.st 4 = none ∧ (fa u = f ∧ u < nf) ∧ w'.2.2 A.st 4 = none ∧ w'.2.1 A.st 2 = nI (u + 1)))
theorem VS.used (h : (VS cs lim dE A r1 r2 NF g4 k4) fa ta nf nt M w) (hu : w.2.1 A.st 2 = nI u) (hN : u < 110000) : u ≤ nf := by
  obtain ⟨kf, kt, h0, R, lf, lt⟩ := h.h
  have hfu := h0.fu
  rw [h.I (Or.inr (Or.inr (Or.inr rfl))), hu, nI_toI (by omega)] at hfu
  omega
theorem VS.NFb (h : (VS cs lim dE A r1 r2 NF g4 k4) fa ta nf nt M w) : NF ≤ 103401 ∧ nt ≤ 1000 := by
  obtain ⟨kf, kt, h0, R, lf, lt⟩ := h.h
  exact ⟨R.F, R.t⟩
theorem VS.takeF (h : (VS cs lim dE A r1 r2 NF g4 k4) fa ta nf nt M w) (hu : w.2.1 A.st 2 = nI u) (hN : u < NF) : ∃ f fa' nf' w', (F_St_takeFrame cs dE M A.st).1 = some f ∧ (VS cs lim dE A r1 r2 NF g4 k4) fa' ta nf' nt (F_St_takeFrame cs dE M A.st).2 w' ∧ nf ≤ nf' ∧ (∀ i, i < nf → fa' i = fa i) ∧ FsO fa' nf' f ∧ TkF A fa' nf' u w w' f := by
  have L := h.lay
  have o9 := L.st_0.1
  have q0 := L.st_0.2
  have kS : FsO fa nf A.st ∨ FsO ta nt A.st ∨ A.st = A.ma ∨ A.st = A.st := Or.inr (Or.inr (Or.inr rfl))
  have i2 : cI M A.st 2 = nI u := by rw [h.I kS]; exact hu
  have q4 : cQ M A.st 4 = w.2.2 A.st 4 := h.Q kS 4
  obtain ⟨kf, kt, h0, R, lf, lt⟩ := h.h
  have Rf := R.f
  have RF := R.F
  have Rt := R.t
  have Rkf := R.kf
  have Rkt := R.kt
  have Rc := R.c
  have Rs := R.s
  have hfu := h0.fu
  have uN : u < 110000 := by omega
  have u32 : (nI u).toInt = u := nI_toI (by omega)
  have hun : u ≤ nf := by rw [i2, u32] at hfu; omega
  unfold F_St_takeFrame
  simp only [mbind_eq, i2, q0, Option.getD_some]
  by_cases hfree : cQ M A.st 4 = none
  rotate_left
  · simp only [if_neg hfree]
    obtain ⟨f, hf⟩ := Option.ne_none_iff_exists'.mp hfree
    have hF := h0.free f hf
    rw [hf]
    simp only [Option.getD_some]
    rw [h.Q (Or.inl hF) 4]
    have hbe : ∀ z, w.2.2 f 4 = some z → FsO fa nf z := fun z hz => (h.hs.fr hF).be z (by rw [h.Q (Or.inl hF) 4]; exact hz)
    have h2 := h.putQ (ci := 9) (k := 4) (r := w.2.2 f 4) o9 (Or.inr ⟨by simp [si_1, si_2, sl_1, sl_2, sl_3, ai_1, ai_2, ai_3, ai_4, al_1, al_2, al_3, al_4, cp_1, cp_2, cp_3, cp_4], hbe⟩)
    refine ⟨f, fa, nf, _, rfl, h2, Nat.le_refl _, fun _ _ => rfl, hF, fun _ _ _ => rfl, fun _ _ _ _ => rfl, fun c k _ hk => ?_, Or.inl ⟨by rw [← q4]; exact hf, ?_, rfl⟩⟩
    · rw [vpq_q, if_neg hk]
    · rw [vpq_q, if_pos ⟨rfl, rfl⟩]
  simp only [if_pos hfree]
  have sl := lf.siz
  have fsz : F_AL_size cs dE M A.fl = cI M A.fl 1 := rfl
  rw [fsz]
  have nf32 : nf ≤ 103401 := by omega
  by_cases hlt : nI u < cI M A.fl 1
  · simp only [if_pos hlt]
    have hlt' := Int32.lt_iff_toInt_lt.mp hlt
    rw [u32, sl] at hlt'
    obtain ⟨-, f, fg, hF⟩ := alj_get (lim := lim) lf (x := nI u) (i := u) u32 (by omega) (by omega)
    rw [fg, ← nI_succ]
    have hF' : FsO fa nf f := ⟨u, by omega, hF.symm⟩
    have h2 := h.putI (ci := 9) (k := 2) (x := nI (u + 1)) o9 (by decide) (by decide) (by decide) (fun _ _ z => z.putI o9 (Or.inr (Or.inl ⟨rfl, rfl, by rw [nI_toI (by omega)]; omega, by rw [nI_toI (by omega)]; omega⟩)))
    refine ⟨f, fa, nf, _, rfl, h2, Nat.le_refl _, fun _ _ => rfl, hF', fun _ _ _ => rfl, fun c k _ hk => ?_, fun _ _ _ _ => rfl, Or.inr ⟨by rw [← q4]; exact hfree, ⟨hF.symm, by omega⟩, by rw [vpi_q, ← q4]; exact hfree, ?_⟩⟩
    · rw [vpi_i, if_neg hk]
    · rw [vpi_i, if_pos ⟨rfl, rfl⟩]
  · simp only [if_neg hlt]
    have hge : nf ≤ u := by
      have : ¬ (nI u).toInt < (cI M A.fl 1).toInt := fun z => hlt (Int32.lt_iff_toInt_lt.mpr z)
      rw [u32, sl] at this
      omega
    have hnu : u = nf := by omega
    subst hnu
    have gk := gs_le Rkf
    have gk13 := gs_le13 Rkt
    obtain ⟨-, M2, e2, h2, s2, lo2, x2, so2⟩ := fr_init2 (lim := lim) h0 (by omega) (by omega)
    rw [e2]
    have hf0 : ∀ z, FsO fa u z → z < M.2.1 := fun z hz => (h.oF hz).lt L.mok
    rw [← FsO_snoc] at h2
    have L2 := h2.lay
    have hsn : snoc fa u M.2.1 u = M.2.1 := by unfold snoc; rw [if_pos rfl]
    have hso : ∀ i, i < u → snoc fa u M.2.1 i = fa i := fun i hi => by unfold snoc; rw [if_neg (by omega)]
    have lf2 : LiJ cs dE M2 A.fl (fun i z => i ≤ u ∧ z = snoc fa u M.2.1 i) u kf := (lf.ext x2 (by decide) (by decide) (by decide)).imp (fun i z hi hz => ⟨by omega, by rw [hso i hi]; exact hz⟩)
    have lt2 : LiJ cs dE M2 A.tl (fun i z => z = ta i) nt kt := lt.ext x2 (by decide) (by decide) (by decide)
    obtain ⟨sa, n', d⟩ := alj_add (lim := lim) (y := M.2.1) L2.mok L2.bnd lf2 h2.de (fun i z hz => Or.inl (h2.fr z ⟨i, by omega, hz.2.symm⟩).ok) ⟨Nat.le_refl _, hsn.symm⟩ Rkf (by omega) (by rw [s2]; show M.2.1 + 2 + 1 ≤ _; omega) (fun full => by
      have k23 := full_f full Rkf (by omega)
      have gk' := gs_le (k := kf + 1) (by omega)
      have : gs (kf + 1) = gs kf + gr kf := rfl
      rw [s2]
      show M.2.2 + 55 + gr kf ≤ _
      omega)
    have e3 := x_AL_add cs lim dE M2 A.fl (some M.2.1) L2.mok sa
    have d1 : Ad1 cs dE M2 (F_AL_add cs dE M2 A.fl (some M.2.1)).2 A.fl (FsO (snoc fa u M.2.1) (u + 1)) u kf n' := ⟨d.li.li (fun i z _ hz => ⟨i, by omega, hz.2.symm⟩), d.siz, d.fr⟩
    have h3 := h2.addFl (f := M.2.1) e3 d1
    have lf3 : LiJ cs dE (F_AL_add cs dE M2 A.fl (some M.2.1)).2 A.fl (fun i z => z = snoc fa u M.2.1 i) (u + 1) n' := d.li.imp (fun i z _ hz => hz.2)
    have lt3 : LiJ cs dE (F_AL_add cs dE M2 A.fl (some M.2.1)).2 A.tl (fun i z => z = ta i) nt kt := lt2.other L2.mok h2.de.2 (fun q => L2.dif.2 q.symm) lf2 e3 d.fr
    have c3 : cI (F_AL_add cs dE M2 A.fl (some M.2.1)).2 A.st 2 = nI u := by
      rw [e3.xcI L2.st_0.1 (by decide), cI_cong (lo2 A.st (o9.lt L.mok))]; exact i2
    have d4 := d.siz
    have oF2 : ∀ a, FsO fa u a → cOk 10 M2 a := fun a ha => (cOk_cong (lo2 a (hf0 a ha))).mpr (h.oF ha)
    have oT2 : ∀ a, FsO ta nt a → cOk 11 M2 a := fun a ha => (cOk_cong (lo2 a ((h.oT ha).lt L.mok))).mpr (h.oT ha)
    have sF2 : ∀ a, FsO fa u a → SoA M2 10 a := fun a ha => (h.sf a ha).ext x2 (h.oF ha) (by simp [si_1, si_2, sl_1, sl_2, sl_3, ai_1, ai_2, ai_3, ai_4, al_1, al_2, al_3, al_4, cp_1, cp_2, cp_3, cp_4])
    have sT2 : ∀ a, FsO ta nt a → SoA M2 11 a := fun a ha => (h.st a ha).ext x2 (h.oT ha) (by simp [si_1, si_2, sl_1, sl_2, sl_3, ai_1, ai_2, ai_3, ai_4, al_1, al_2, al_3, al_4, cp_1, cp_2, cp_3, cp_4])
    have ag2 : Ag A (FsO fa u) (FsO ta nt) M2 w := h.ag.ext x2 (fun a ha => h.oF ha) (fun a ha => h.oT ha) h.oM h.oS h.sf h.st h.ar (by decide) (by decide) (by decide)
    have ar2 : ∀ a, FsO fa u a ∨ FsO ta nt a → ∀ b, cQ M2 a 0 = some b → aIk (cs 0) M2 b := fun a ha b hb => by
      rcases ha with g | g
      · obtain ⟨b', c1, c2, -⟩ := (h2.fr a ((FsO_snoc fa u M.2.1) ▸ Or.inl g)).sl
        rw [hb] at c1; cases c1; exact c2
      · obtain ⟨b', c1, c2, -⟩ := (h2.th a g).nm
        rw [hb] at c1; cases c1; exact c2
    have ag3 : Ag A (FsO fa u) (FsO ta nt) (F_AL_add cs dE M2 A.fl (some M.2.1)).2 w := ag2.ext e3 oF2 oT2 L2.ma_0.1 L2.st_0.1 sF2 sT2 ar2 (by decide) (by decide) (by decide)
    have of3 := e3.xcOk (h2.fr M.2.1 ⟨u, by omega, hsn⟩).ok
    have so3 := so2.ext e3 (h2.fr M.2.1 ⟨u, by omega, hsn⟩).ok (by decide)
    have sF3 : ∀ a, FsO fa u a → SoA (F_AL_add cs dE M2 A.fl (some M.2.1)).2 10 a := fun a ha => (sF2 a ha).ext e3 (oF2 a ha) (by decide)
    have sT3 : ∀ a, FsO ta nt a → SoA (F_AL_add cs dE M2 A.fl (some M.2.1)).2 11 a := fun a ha => (sT2 a ha).ext e3 (oT2 a ha) (by decide)
    generalize F_AL_add cs dE M2 A.fl (some M.2.1) = w9 at h3 lf3 lt3 c3 d4 ag3 of3 so3 sF3 sT3 ⊢
    have L3 := h3.lay
    rw [L3.st_0.2]
    simp only [Option.getD_some, c3]
    obtain ⟨-, f, fg, hF⟩ := alj_get (lim := lim) lf3 (x := nI u) (i := u) u32 (by omega) (by omega)
    rw [fg, ← nI_succ]
    rw [hsn] at hF
    subst hF
    have hFn : ¬ FsO fa u M.2.1 := fun z => by have := hf0 _ z; omega
    have hTn : ¬ FsO ta nt M.2.1 := fun z => by have := (h.oT z).lt L.mok; omega
    have hMn : A.ma ≠ M.2.1 := fun z => by have := h.oM.lt L.mok; omega
    have hSn : A.st ≠ M.2.1 := fun z => by have := h.oS.lt L.mok; omega
    -- what is read of the new frame is what it holds
    have v3 : (VS cs lim dE A r1 r2 NF g4 k4) (snoc fa u M.2.1) ta (u + 1) nt w9.2 (fun c j => if c = M.2.1 then aF w9.2 ((cQ w9.2 M.2.1 0).getD 0) j else w.1 c j, fun c k => if c = M.2.1 then cI w9.2 M.2.1 k else w.2.1 c k, fun c k => if c = M.2.1 then cQ w9.2 M.2.1 k else w.2.2 c k) := by
      refine ⟨⟨n', kt, h3, ⟨by omega, RF, Rt, ?_, Rkt, ?_, ?_⟩, lf3, lt3⟩, fun a ha => ?_, sT3, ⟨fun a ha => ?_, fun a k ha => ?_⟩, fun i j hi hj he => ?_, h.ti⟩
      · rcases d4 with ⟨z1, -⟩ | ⟨z1, -, z3⟩
        · omega
        · have := full_f z3 Rkf (by omega); omega
      · rcases d4 with ⟨z1, z2⟩ | ⟨z1, z2, z3⟩
        · rw [z2, s2, z1]; show M.2.1 + 2 + r1 + _ + _ ≤ _; omega
        · rw [z2, s2, z1]; show M.2.1 + 2 + 1 + r1 + _ + _ ≤ _; omega
      · rcases d4 with ⟨z1, z2⟩ | ⟨z1, z2, z3⟩
        · rw [z2, s2, z1]; show M.2.2 + 55 + r2 + _ + _ + _ ≤ _; omega
        · have : gs (kf + 1) = gs kf + gr kf := rfl
          rw [z2, s2, z1, this]; show M.2.2 + 55 + gr kf + r2 + _ + _ + _ ≤ _; omega
      · rw [FsO_snoc] at ha
        rcases ha with g | rfl
        · exact sF3 a g
        · exact so3
      · rw [FsO_snoc] at ha
        by_cases q : a = M.2.1
        · subst q
          obtain ⟨b, b1, -⟩ := so3
          refine ⟨b, b1, fun j => ?_⟩
          show _ = if M.2.1 = M.2.1 then _ else _
          rw [if_pos rfl, b1]
          rfl
        · obtain ⟨b, b1, b2⟩ := ag3.1 a (by rcases ha with (g | g) | g; exact Or.inl g; exact absurd g q; exact Or.inr g)
          refine ⟨b, b1, fun j => ?_⟩
          show _ = if a = M.2.1 then _ else _
          rw [if_neg q]
          exact b2 j
      · rw [FsO_snoc] at ha
        by_cases q : a = M.2.1
        · subst q
          show _ = (if M.2.1 = M.2.1 then _ else _) ∧ _ = (if M.2.1 = M.2.1 then _ else _)
          rw [if_pos rfl, if_pos rfl]
          exact ⟨rfl, rfl⟩
        · show _ = (if a = M.2.1 then _ else _) ∧ _ = (if a = M.2.1 then _ else _)
          rw [if_neg q, if_neg q]
          exact ag3.2 a k (by rcases ha with (g | g) | g; exact Or.inl g; exact absurd g q; exact Or.inr g)
      · by_cases qi : i = u
        · by_cases qj : j = u
          · omega
          · rw [qi, hsn, hso j (by omega)] at he
            exact absurd ⟨j, by omega, he.symm⟩ hFn
        · by_cases qj : j = u
          · rw [qj, hsn, hso i (by omega)] at he
            exact absurd ⟨i, by omega, he⟩ hFn
          · rw [hso i (by omega), hso j (by omega)] at he
            exact h.fi i j (by omega) (by omega) he
    have h4 := v3.putI (ci := 9) (k := 2) (x := nI (u + 1)) v3.oS (by decide) (by decide) (by decide) (fun _ _ z => z.putI v3.oS (Or.inr (Or.inl ⟨rfl, rfl, by rw [nI_toI (by omega)]; omega, by rw [nI_toI (by omega)]; omega⟩)))
    refine ⟨M.2.1, snoc fa u M.2.1, u + 1, _, rfl, h4, by omega, hso, ⟨u, by omega, hsn⟩, fun c j hc => ?_, fun c k hc hk => ?_, fun c k hc hk => ?_, Or.inr ⟨by rw [← q4]; exact hfree, ⟨hsn, by omega⟩, ?_, ?_⟩⟩
    · rw [vpi_s]; exact if_neg hc
    · rw [vpi_i, if_neg hk]; exact if_neg hc
    · rw [vpi_q]; exact if_neg hc
    · rw [vpi_q]
      show (if A.st = M.2.1 then _ else _) = _
      rw [if_neg hSn, ← q4]
      exact hfree
    · rw [vpi_i, if_pos ⟨rfl, rfl⟩]
/-- what taking a thing leaves -/
def TkT (A : Ad) (v : Nat) (w w' : Vw) (t : Nat) : Prop :=
  (∀ c j, c ≠ t → w'.1 c j = w.1 c j) ∧ (∀ c k, c ≠ t → w'.2.1 c k = (vpi w A.st 3 (nI (v + 1))).2.1 c k) ∧ (∀ c k, c ≠ t → w'.2.2 c k = w.2.2 c k)
theorem VS.takeT (h : (VS cs lim dE A r1 r2 NF g4 k4) fa ta nf nt M w) (hv : w.2.1 A.st 3 = nI v) (hN : v < 1000) : (F_St_takeThing cs dE M A.st).1 = nI v ∧ ∃ ta' nt' w', (VS cs lim dE A r1 r2 NF g4 k4) fa ta' nf nt' (F_St_takeThing cs dE M A.st).2 w' ∧ nt ≤ nt' ∧ (∀ i, i < nt → ta' i = ta i) ∧ v < nt' ∧ TkT A v w w' (ta' v) := by
  have L := h.lay
  have o9 := L.st_0.1
  have q1 := L.st_1.2
  have kS : FsO fa nf A.st ∨ FsO ta nt A.st ∨ A.st = A.ma ∨ A.st = A.st := Or.inr (Or.inr (Or.inr rfl))
  have i3 : cI M A.st 3 = nI v := by rw [h.I kS]; exact hv
  obtain ⟨kf, kt, h0, R, lf, lt⟩ := h.h
  have Rf := R.f
  have RF := R.F
  have Rt := R.t
  have Rkf := R.kf
  have Rkt := R.kt
  have Rc := R.c
  have Rs := R.s
  have htu := h0.tu
  have u32 : (nI v).toInt = v := nT (by omega)
  have hvn : v ≤ nt := by rw [i3, u32] at htu; omega
  unfold F_St_takeThing
  simp only [mbind_eq, i3, q1, Option.getD_some]
  have sl := lt.siz
  have fsz : F_AL_size cs dE M A.tl = cI M A.tl 1 := rfl
  rw [fsz]
  by_cases hlt : nI v < cI M A.tl 1
  · simp only [if_pos hlt, ← nI_succ]
    have hlt' := Int32.lt_iff_toInt_lt.mp hlt
    rw [u32, sl] at hlt'
    have h2 := h.putI (ci := 9) (k := 3) (x := nI (v + 1)) o9 (by decide) (by decide) (by decide) (fun _ _ z => z.putI o9 (Or.inr (Or.inr ⟨rfl, rfl, by rw [nT (by omega)]; omega, by rw [nT (by omega)]; omega⟩)))
    refine ⟨?_, ta, nt, _, h2, Nat.le_refl _, fun _ _ => rfl, by omega, fun _ _ _ => rfl, fun _ _ _ => rfl, fun _ _ _ => rfl⟩
    rw [cI_put o9 (by decide), nP]
  · simp only [if_neg hlt]
    have hge : nt ≤ v := by
      have : ¬ (nI v).toInt < (cI M A.tl 1).toInt := fun z => hlt (Int32.lt_iff_toInt_lt.mpr z)
      rw [u32, sl] at this
      omega
    have hnu : v = nt := by omega
    subst hnu
    have gk := gs_le Rkf
    have gk13 := gs_le13 Rkt
    obtain ⟨-, M2, e2, h2, s2, lo2, x2, so2⟩ := th_init2 (lim := lim) h0 (by omega) (by omega)
    rw [e2]
    have hf0 : ∀ z, FsO ta v z → z < M.2.1 := fun z hz => (h.oT hz).lt L.mok
    rw [← FsO_snoc] at h2
    have L2 := h2.lay
    have hsn : snoc ta v M.2.1 v = M.2.1 := by unfold snoc; rw [if_pos rfl]
    have hso : ∀ i, i < v → snoc ta v M.2.1 i = ta i := fun i hi => by unfold snoc; rw [if_neg (by omega)]
    have lt2 : LiJ cs dE M2 A.tl (fun i z => i ≤ v ∧ z = snoc ta v M.2.1 i) v kt := (lt.ext x2 (by decide) (by decide) (by decide)).imp (fun i z hi hz => ⟨by omega, by rw [hso i hi]; exact hz⟩)
    have lf2 : LiJ cs dE M2 A.fl (fun i z => z = fa i) nf kf := lf.ext x2 (by decide) (by decide) (by decide)
    obtain ⟨sa, n', d⟩ := alj_add (lim := lim) (y := M.2.1) L2.mok L2.bnd lt2 h2.de (fun i z hz => Or.inr (h2.th z ⟨i, by omega, hz.2.symm⟩).ok) ⟨Nat.le_refl _, hsn.symm⟩ (by omega) (by omega) (by rw [s2]; show M.2.1 + 2 + 1 ≤ _; omega) (fun full => by
      have k12 := full_t full Rkt (by omega)
      have gk' := gs_le13 (k := kt + 1) (by omega)
      have : gs (kt + 1) = gs kt + gr kt := rfl
      rw [s2]
      show M.2.2 + 17 + gr kt ≤ _
      omega)
    have e3 := x_AL_add cs lim dE M2 A.tl (some M.2.1) L2.mok sa
    have d1 : Ad1 cs dE M2 (F_AL_add cs dE M2 A.tl (some M.2.1)).2 A.tl (FsO (snoc ta v M.2.1) (v + 1)) v kt n' := ⟨d.li.li (fun i z _ hz => ⟨i, by omega, hz.2.symm⟩), d.siz, d.fr⟩
    have h3 := h2.addTl e3 d1
    have lt3 : LiJ cs dE (F_AL_add cs dE M2 A.tl (some M.2.1)).2 A.tl (fun i z => z = snoc ta v M.2.1 i) (v + 1) n' := d.li.imp (fun i z _ hz => hz.2)
    have lf3 : LiJ cs dE (F_AL_add cs dE M2 A.tl (some M.2.1)).2 A.fl (fun i z => z = fa i) nf kf := lf2.other L2.mok h2.de.2 L2.dif.2 lt2 e3 d.fr
    have c3 : cI (F_AL_add cs dE M2 A.tl (some M.2.1)).2 A.st 3 = nI v := by
      rw [e3.xcI L2.st_0.1 (by decide), cI_cong (lo2 A.st (o9.lt L.mok))]; exact i3
    have d4 := d.siz
    have oF2 : ∀ a, FsO fa nf a → cOk 10 M2 a := fun a ha => (cOk_cong (lo2 a ((h.oF ha).lt L.mok))).mpr (h.oF ha)
    have oT2 : ∀ a, FsO ta v a → cOk 11 M2 a := fun a ha => (cOk_cong (lo2 a (hf0 a ha))).mpr (h.oT ha)
    have sF2 : ∀ a, FsO fa nf a → SoA M2 10 a := fun a ha => (h.sf a ha).ext x2 (h.oF ha) (by simp [si_1, si_2, sl_1, sl_2, sl_3, ai_1, ai_2, ai_3, ai_4, al_1, al_2, al_3, al_4, cp_1, cp_2, cp_3, cp_4])
    have sT2 : ∀ a, FsO ta v a → SoA M2 11 a := fun a ha => (h.st a ha).ext x2 (h.oT ha) (by simp [si_1, si_2, sl_1, sl_2, sl_3, ai_1, ai_2, ai_3, ai_4, al_1, al_2, al_3, al_4, cp_1, cp_2, cp_3, cp_4])
    have ag2 : Ag A (FsO fa nf) (FsO ta v) M2 w := h.ag.ext x2 (fun a ha => h.oF ha) (fun a ha => h.oT ha) h.oM h.oS h.sf h.st h.ar (by decide) (by decide) (by decide)
    have ar2 : ∀ a, FsO fa nf a ∨ FsO ta v a → ∀ b, cQ M2 a 0 = some b → aIk (cs 0) M2 b := fun a ha b hb => by
      rcases ha with g | g
      · obtain ⟨b', c1, c2, -⟩ := (h2.fr a g).sl
        rw [hb] at c1; cases c1; exact c2
      · obtain ⟨b', c1, c2, -⟩ := (h2.th a ((FsO_snoc ta v M.2.1) ▸ Or.inl g)).nm
        rw [hb] at c1; cases c1; exact c2
    have ag3 : Ag A (FsO fa nf) (FsO ta v) (F_AL_add cs dE M2 A.tl (some M.2.1)).2 w := ag2.ext e3 oF2 oT2 L2.ma_0.1 L2.st_0.1 sF2 sT2 ar2 (by decide) (by decide) (by decide)
    have of3 := e3.xcOk (h2.th M.2.1 ⟨v, by omega, hsn⟩).ok
    have so3 := so2.ext e3 (h2.th M.2.1 ⟨v, by omega, hsn⟩).ok (by decide)
    have sF3 : ∀ a, FsO fa nf a → SoA (F_AL_add cs dE M2 A.tl (some M.2.1)).2 10 a := fun a ha => (sF2 a ha).ext e3 (oF2 a ha) (by decide)
    have sT3 : ∀ a, FsO ta v a → SoA (F_AL_add cs dE M2 A.tl (some M.2.1)).2 11 a := fun a ha => (sT2 a ha).ext e3 (oT2 a ha) (by decide)
    generalize F_AL_add cs dE M2 A.tl (some M.2.1) = w9 at h3 lf3 lt3 c3 d4 ag3 of3 so3 sF3 sT3 ⊢
    have L3 := h3.lay
    simp only [c3, ← nI_succ]
    have hTn : ¬ FsO ta v M.2.1 := fun z => by have := hf0 _ z; omega
    have hFn : ¬ FsO fa nf M.2.1 := fun z => by have := (h.oF z).lt L.mok; omega
    have hSn : A.st ≠ M.2.1 := fun z => by have := h.oS.lt L.mok; omega
    have v3 : (VS cs lim dE A r1 r2 NF g4 k4) fa (snoc ta v M.2.1) nf (v + 1) w9.2 (fun c j => if c = M.2.1 then aF w9.2 ((cQ w9.2 M.2.1 0).getD 0) j else w.1 c j, fun c k => if c = M.2.1 then cI w9.2 M.2.1 k else w.2.1 c k, fun c k => if c = M.2.1 then cQ w9.2 M.2.1 k else w.2.2 c k) := by
      refine ⟨⟨kf, n', h3, ⟨Rf, RF, by omega, Rkf, ?_, ?_, ?_⟩, lf3, lt3⟩, sF3, fun a ha => ?_, ⟨fun a ha => ?_, fun a k ha => ?_⟩, h.fi, fun i j hi hj he => ?_⟩
      · rcases d4 with ⟨z1, -⟩ | ⟨z1, -, z3⟩
        · omega
        · have := full_t z3 Rkt (by omega); omega
      · rcases d4 with ⟨z1, z2⟩ | ⟨z1, z2, z3⟩
        · rw [z2, s2, z1]; show M.2.1 + 2 + r1 + _ + _ ≤ _; omega
        · rw [z2, s2, z1]; show M.2.1 + 2 + 1 + r1 + _ + _ ≤ _; omega
      · rcases d4 with ⟨z1, z2⟩ | ⟨z1, z2, z3⟩
        · rw [z2, s2, z1]; show M.2.2 + 17 + r2 + _ + _ + _ ≤ _; omega
        · have : gs (kt + 1) = gs kt + gr kt := rfl
          rw [z2, s2, z1, this]; show M.2.2 + 17 + gr kt + r2 + _ + _ + _ ≤ _; omega
      · rw [FsO_snoc] at ha
        rcases ha with g | rfl
        · exact sT3 a g
        · exact so3
      · rw [FsO_snoc] at ha
        by_cases q : a = M.2.1
        · subst q
          obtain ⟨b, b1, -⟩ := so3
          refine ⟨b, b1, fun j => ?_⟩
          show _ = if M.2.1 = M.2.1 then _ else _
          rw [if_pos rfl, b1]
          rfl
        · obtain ⟨b, b1, b2⟩ := ag3.1 a (by rcases ha with g | (g | g); exact Or.inl g; exact Or.inr g; exact absurd g q)
          refine ⟨b, b1, fun j => ?_⟩
          show _ = if a = M.2.1 then _ else _
          rw [if_neg q]
          exact b2 j
      · rw [FsO_snoc] at ha
        by_cases q : a = M.2.1
        · subst q
          show _ = (if M.2.1 = M.2.1 then _ else _) ∧ _ = (if M.2.1 = M.2.1 then _ else _)
          rw [if_pos rfl, if_pos rfl]
          exact ⟨rfl, rfl⟩
        · show _ = (if a = M.2.1 then _ else _) ∧ _ = (if a = M.2.1 then _ else _)
          rw [if_neg q, if_neg q]
          exact ag3.2 a k (by rcases ha with g | (g | g) | g; exact Or.inl g; exact Or.inr (Or.inl g); exact absurd g q; exact Or.inr (Or.inr g))
      · by_cases qi : i = v
        · by_cases qj : j = v
          · omega
          · rw [qi, hsn, hso j (by omega)] at he
            exact absurd ⟨j, by omega, he.symm⟩ hTn
        · by_cases qj : j = v
          · rw [qj, hsn, hso i (by omega)] at he
            exact absurd ⟨i, by omega, he⟩ hTn
          · rw [hso i (by omega), hso j (by omega)] at he
            exact h.ti i j (by omega) (by omega) he
    have h4 := v3.putI (ci := 9) (k := 3) (x := nI (v + 1)) v3.oS (by decide) (by decide) (by decide) (fun _ _ z => z.putI v3.oS (Or.inr (Or.inr ⟨rfl, rfl, by rw [nT (by omega)]; omega, by rw [nT (by omega)]; omega⟩)))
    refine ⟨?_, snoc ta v M.2.1, v + 1, _, h4, by omega, hso, by omega, fun c j hc => ?_, fun c k hc => ?_, fun c k hc => ?_⟩
    · rw [cI_put v3.oS (by decide), nP]
    · rw [hsn] at hc; rw [vpi_s]; exact if_neg hc
    · rw [hsn] at hc
      rw [vpi_i, vpi_i]
      by_cases q : c = A.st ∧ k = 3
      · rw [if_pos q, if_pos q]
      · rw [if_neg q, if_neg q]; exact if_neg hc
    · rw [hsn] at hc; rw [vpi_q]; exact if_neg hc
theorem VS.thing {i : Nat} (h : (VS cs lim dE A r1 r2 NF g4 k4) fa ta nf nt M w) (hv : w.2.1 A.st 3 = nI v) (hi : i < v) (h1000 : v ≤ 1000) : F_St_thingAt cs dE M A.st (nI i) = some (ta i) ∧ FsO ta nt (ta i) := by
  have L := h.lay
  have kS : FsO fa nf A.st ∨ FsO ta nt A.st ∨ A.st = A.ma ∨ A.st = A.st := Or.inr (Or.inr (Or.inr rfl))
  have i3 : cI M A.st 3 = nI v := by rw [h.I kS]; exact hv
  obtain ⟨kf, kt, h0, R, lf, lt⟩ := h.h
  have htu := h0.tu
  have Rt := R.t
  have u32 : (nI v).toInt = v := nT (by omega)
  have hvn : v ≤ nt := by rw [i3, u32] at htu; omega
  have sl := lt.siz
  have n1 : ¬ nI i < 0 := nI_pos (Nat.lt_trans (show i < 2000 by omega) (by decide))
  have n2 : ¬ nI v ≤ nI i := nI_ge hi (Nat.lt_trans (show v < 2000 by omega) (by decide))
  have n3 : ¬ cI M A.tl 1 ≤ nI i := by rw [Int32.le_iff_toInt_le, sl, nT (by omega)]; omega
  unfold F_St_thingAt
  have fsz : F_AL_size cs dE M A.tl = cI M A.tl 1 := rfl
  simp only [mbind_eq, i3, L.st_1.2, Option.getD_some, if_neg n1, if_neg n2, fsz, if_neg n3]
  obtain ⟨-, t, tg, hT⟩ := alj_get (lim := lim) lt (x := nI i) (i := i) (nT (by omega)) (by omega) (by omega)
  rw [tg, hT]
  exact ⟨rfl, i, by omega, rfl⟩
/-- what entering leaves -/
def EnF (A : Ad) (fa : Nat → Nat) (nf u : Nat) (w w' : Vw) (f t : Nat) (x1 : Option Nat) (x3 : Int32) : Prop :=
  ((∀ j, j < 10 → w'.1 f j = w.1 t j) ∧ w'.2.1 f 1 = nI 10 ∧ w'.2.1 f 2 = x3 ∧ w'.2.2 f 3 = none ∧ w'.2.2 f 4 = x1 ∧ w'.2.2 A.ma 10 = some f ∧ w'.2.1 A.ma 8 = w.2.1 A.ma 8 + 1) ∧
  (∀ c j, c ≠ f → w'.1 c j = w.1 c j) ∧ (∀ c k, c ≠ f → ¬ (c = A.ma ∧ k = 8) → ¬ (c = A.st ∧ k = 2) → w'.2.1 c k = w.2.1 c k) ∧ (∀ c k, c ≠ f → ¬ (c = A.ma ∧ k = 10) → ¬ (c = A.st ∧ k = 4) → w'.2.2 c k = w.2.2 c k) ∧ ((w.2.2 A.st 4 = some f ∧ w'.2.2 A.st 4 = w.2.2 f 4 ∧ w'.2.1 A.st 2 = w.2.1 A.st 2) ∨ (w.2.2 A.st 4 = none ∧ (fa u = f ∧ u < nf) ∧ w'.2.2 A.st 4 = none ∧ w'.2.1 A.st 2 = nI (u + 1)))
/-- a frame that is in use -/
def Usd (A : Ad) (fa : Nat → Nat) (u : Nat) (w : Vw) (c : Nat) : Prop := (∃ i, i < u ∧ fa i = c) ∧ w.2.2 A.st 4 ≠ some c
theorem VS.enter (h : (VS cs lim dE A r1 r2 NF g4 k4) fa ta nf nt M w) (hu : w.2.1 A.st 2 = nI u) (hN : u < NF) (ht : FsO ta nt t) {x1 : Option Nat} (hx1 : ∀ z, x1 = some z → FsO fa nf z) (x3 : Int32) : ∃ f fa' nf' w', (VS cs lim dE A r1 r2 NF g4 k4) fa' ta nf' nt (F_Ma_enter cs dE M A.ma x1 (some t) x3) w' ∧ nf ≤ nf' ∧ (∀ i, i < nf → fa' i = fa i) ∧ FsO fa' nf' f ∧ (∀ c, Usd A fa u w c → c ≠ f) ∧ EnF A fa' nf' u w w' f t x1 x3 := by
  unfold F_Ma_enter
  simp only [mbind_eq, h.lay.ma_1.2, Option.getD_some]
  obtain ⟨f, fa', nf', w1, e1, h1, p1, p2, p3, T1, T2, T3, T4⟩ := h.takeF hu hN
  generalize F_St_takeFrame cs dE M A.st = wf at e1 h1 ⊢
  rw [e1]
  simp only [Option.getD_some]
  have h2 := h1.opens p3 ht x3
  generalize F_Fr_open cs wf.2 f (some t) x3 = M2 at h2 ⊢
  have h3 := h2.putQ (ci := 10) (k := 4) (r := x1) (h2.oF p3) (Or.inr ⟨by simp [si_1, si_2, sl_1, sl_2, sl_3, ai_1, ai_2, ai_3, ai_4, al_1, al_2, al_3, al_4, cp_1, cp_2, cp_3, cp_4], fun z hz => (hx1 z hz).le p1 p2⟩)
  have h4 := h3.putQ (ci := 8) (k := 10) (r := some f) h3.oM (Or.inr ⟨by simp [si_1, si_2, sl_1, sl_2, sl_3, ai_1, ai_2, ai_3, ai_4, al_1, al_2, al_3, al_4, cp_1, cp_2, cp_3, cp_4], fun z hz => by cases hz; exact p3⟩)
  rw [h4.I (Or.inr (Or.inr (Or.inl rfl))) 8]
  have h5 := h4.putN (ci := 8) (k := 8) (x := (vpq (vpq (vpq (vpi (vpi (vpS w1 f (fun j => if j < 10 then w1.1 t j else w1.1 f j)) f 2 x3) f 1 (nI 10)) f 3 none) f 4 x1) A.ma 10 (some f)).2.1 A.ma 8 + 1) h4.oM (by decide) (by decide) (by decide) (by decide)
  have nfm : f ≠ A.ma := h1.neFM p3
  have nfs : f ≠ A.st := h1.neFS p3
  have nft : f ≠ t := h1.neFT p3 ht
  have nms : A.ma ≠ A.st := h1.neMS
  have hus : ∀ c, Usd A fa u w c → c ≠ f := fun c hc q => by
    obtain ⟨⟨i, i1, i2⟩, i3⟩ := hc
    rcases T4 with ⟨z, -⟩ | ⟨-, ⟨z1, z2⟩, -⟩
    · exact i3 (by rw [q]; exact z)
    · have hun : u ≤ nf := h.used hu (by have := h.NFb.1; omega)
      have := h1.fi i u (by omega) z2 (by rw [z1, p2 i (by omega), i2, q])
      omega
  refine ⟨f, fa', nf', _, h5, p1, p2, p3, hus, ⟨fun j hj => ?_, ?_, ?_, ?_, ?_, ?_, ?_⟩, fun c j hc => ?_, fun c k hc k1 k2 => ?_, fun c k hc k1 k2 => ?_, ?_⟩
  · simp only [vpi_s, vpq_s, vpS_s, if_true, if_pos hj]
    exact T1 t j (Ne.symm nft)
  · simp (decide := true) only [vpi_i, vpq_i, vpS_i, nfm, false_and, if_false, true_and, if_true, and_self, and_true]
  · simp (decide := true) only [vpi_i, vpq_i, vpS_i, nfm, false_and, if_false, true_and, if_true, and_self, and_true]
  · simp (decide := true) only [vpi_q, vpq_q, vpS_q, nfm, false_and, if_false, true_and, if_true, and_self, and_true]
  · simp (decide := true) only [vpi_q, vpq_q, vpS_q, nfm, false_and, if_false, true_and, if_true, and_self, and_true]
  · simp (decide := true) only [vpi_q, vpq_q, if_true, and_self]
  · simp (decide := true) only [vpi_i, vpq_i, vpS_i, Ne.symm nfm, false_and, if_false, true_and, if_true, and_self]
    rw [T2 A.ma 8 (Ne.symm nfm) (fun z => nms z.1)]
  · simp only [vpi_s, vpq_s, vpS_s, if_neg hc]
    exact T1 c j hc
  · simp only [vpi_i, vpq_i, vpS_i, hc, false_and, if_false, if_neg k1]
    exact T2 c k hc k2
  · simp only [vpi_q, vpq_q, vpS_q, hc, false_and, if_false, if_neg k1]
    exact T3 c k hc k2
  · have ns : ¬ (A.st = A.ma ∧ (2 : Nat) = 8) := fun z => nms z.1.symm
    have ns4 : ¬ (A.st = A.ma ∧ (4 : Nat) = 10) := fun z => nms z.1.symm
    have nsf : A.st ≠ f := Ne.symm nfs
    simp only [vpi_q, vpq_q, vpS_q, vpi_i, vpq_i, vpS_i, nsf, false_and, if_false, if_neg ns, if_neg ns4]
    exact T4
end
end
