-- pure rows: FG FH FI
section
/-! pure rows, the class: a thing is taken -/
section
variable {cs : Nat → ClassId} {lim dE : Nat × Nat} {A : Ad} {Fs Ts : Nat → Prop} {nf nt kf kt r1 r2 NF : Nat} {g4 : Nat → Int32} {k4 : Nat} {M M' : gMem} {a b sz n : Nat}
theorem th_init (h : HTL cs dE A Fs Ts nf nt kf kt g4 k4 M) (hl1 : M.2.1 + 2 ≤ lim.1) (hl2 : M.2.2 + 17 ≤ lim.2) :
    S_Th_init cs lim (gnw M (1, .inr (11, [.null, .int 0, .int 0, .int 0, .null, .null, .int 0])) 7) M.2.1 ∧ ∃ M2, F_Th_init cs (gnw M (1, .inr (11, [.null, .int 0, .int 0, .int 0, .null, .null, .int 0])) 7) M.2.1 = M2 ∧ HTL cs dE A Fs (fun z => Ts z ∨ z = M.2.1) nf nt kf kt g4 k4 M2 ∧ M2.2 = (M.2.1 + 2, M.2.2 + 17) ∧ (∀ c, c < M.2.1 → M2.1 c = M.1 c) := by
  have hM := h.lay.mok
  generalize hf : M.2.1 = f
  have s0 : (gnw M (1, .inr (11, [.null, .int 0, .int 0, .int 0, .null, .null, .int 0])) 7).2 = (f + 1, M.2.2 + 7) := by rw [← hf]; rfl
  have m0 : ∀ c, c ≠ f → (gnw M (1, .inr (11, [.null, .int 0, .int 0, .int 0, .null, .null, .int 0])) 7).1 c = M.1 c := fun c hc => gnw_n (by rw [hf]; exact hc)
  have f0 : (gnw M (1, .inr (11, [.null, .int 0, .int 0, .int 0, .null, .null, .int 0])) 7).1 f = some (1, .inr (11, [.null, .int 0, .int 0, .int 0, .null, .null, .int 0])) := by rw [← hf]; exact gnw_s
  have cw : cwt 11 [.null, .int 0, .int 0, .int 0, .null, .null, .int 0] := by
    refine ⟨rfl, fun k hk => ?_⟩
    have : k = 0 ∨ k = 1 ∨ k = 2 ∨ k = 3 ∨ k = 4 ∨ k = 5 ∨ k = 6 := by
      have : k < 7 := hk
      omega
    rcases this with rfl | rfl | rfl | rfl | rfl | rfl | rfl
    · exact ⟨fun _ => ⟨none, rfl⟩, fun z => absurd rfl z⟩
    · exact ⟨fun z => absurd z (by decide), fun _ => ⟨0, rfl⟩⟩
    · exact ⟨fun z => absurd z (by decide), fun _ => ⟨0, rfl⟩⟩
    · exact ⟨fun z => absurd z (by decide), fun _ => ⟨0, rfl⟩⟩
    · exact ⟨fun _ => ⟨none, rfl⟩, fun z => absurd rfl z⟩
    · exact ⟨fun _ => ⟨none, rfl⟩, fun z => absurd rfl z⟩
    · exact ⟨fun z => absurd z (by decide), fun _ => ⟨0, rfl⟩⟩
  generalize gnw M (1, .inr (11, [.null, .int 0, .int 0, .int 0, .null, .null, .int 0])) 7 = M0 at s0 m0 f0 ⊢
  have t10 : (10 : Int32).toNatClampNeg = 10 := by decide
  unfold S_Th_init F_Th_init
  simp only [t10]
  have s1 : (gnw M0 (1, .inl (cs 0, 10, .inl (fun _ => 0))) 10).2 = (f + 2, M.2.2 + 17) := by
    show (M0.2.1 + 1, M0.2.2 + 10) = _
    rw [s0]
  have e0 : M0.2.1 = f + 1 := by rw [s0]
  have m1 : ∀ c, c ≠ f + 1 → (gnw M0 (1, .inl (cs 0, 10, .inl (fun _ => 0))) 10).1 c = M0.1 c := fun c hc => gnw_n (by rw [e0]; exact hc)
  have b1 : (gnw M0 (1, .inl (cs 0, 10, .inl (fun _ => 0))) 10).1 (f + 1) = some (1, .inl (cs 0, 10, .inl (fun _ => 0))) := by rw [← e0]; exact gnw_s
  generalize gnw M0 (1, .inl (cs 0, 10, .inl (fun _ => 0))) 10 = M1 at s1 m1 b1 ⊢
  have f1 : M1.1 f = some (1, .inr (11, [.null, .int 0, .int 0, .int 0, .null, .null, .int 0])) := by rw [m1 f (by omega)]; exact f0
  have o1 : cOk 11 M1 f := ⟨_, f1, cw⟩
  have o3 : cOk 11 (cP 11 M1 f 0 (va_rf (some M0.2.1))) f := cOk_put (fun _ => ⟨_, rfl⟩) (fun z => (z (by decide)).elim) o1 o1
  have g1 : (cP 11 M1 f 0 (va_rf (some M0.2.1))).1 f = some (1, .inr (11, [.ref (f + 1), .int 0, .int 0, .int 0, .null, .null, .int 0])) := by
    unfold cP
    rw [gup_s, cO_of f1, e0]
    rfl
  have n3 : ∀ c, c ≠ f → (cP 11 M1 f 0 (va_rf (some M0.2.1))).1 c = M1.1 c := fun c hc => by
    unfold cP
    rw [gup_n hc]
  have s3 : (cP 11 M1 f 0 (va_rf (some M0.2.1))).2 = (f + 2, M.2.2 + 17) := s1
  refine ⟨⟨⟨⟨by decide, by decide⟩, by rw [e0]; omega, by rw [s0]; show M.2.2 + 7 + 10 ≤ _; omega⟩, o1, trivial⟩, _, rfl, ?_, s3, fun c hc => ?_⟩
  rotate_left
  · rw [n3 c (by omega), m1 c (by omega), m0 c (by omega)]
  generalize cP 11 M1 f 0 (va_rf (some M0.2.1)) = M2 at o3 g1 n3 s3 ⊢
  have low : ∀ c, c < M.2.1 → M2.1 c = M.1 c := fun c hc => by rw [n3 c (by omega), m1 c (by omega), m0 c (by omega)]
  have hi : ∀ c, f + 2 ≤ c → M2.1 c = none := fun c hc => by rw [n3 c (by omega), m1 c (by omega), m0 c (by omega)]; exact hM c (by omega)
  have b2 : M2.1 (f + 1) = some (1, .inl (cs 0, 10, .inl (fun _ => 0))) := by rw [n3 _ (by omega)]; exact b1
  have cf : cO M2 f = [.ref (f + 1), .int 0, .int 0, .int 0, .null, .null, .int 0] := cO_of g1
  have e : Ext [] [] true M M2 := by
    refine Ext.fresh2 hM low (by rw [s3, hf]; show f ≤ f + 2; omega) (by rw [s3]; show M.2.2 ≤ M.2.2 + 17; omega) (fun c hc => hi c (by rw [s3] at hc; exact hc)) ?_
    intro c ci k b hc hk ho hq
    rw [s3]
    show M.2.1 ≤ b ∧ b < f + 2
    by_cases q : c = f
    · subst q
      have := ho.uniq o3
      subst this
      have := own11 hk
      subst this
      unfold cQ at hq
      rw [cf] at hq
      cases hq
      omega
    · exfalso
      obtain ⟨fs, e1, -⟩ := ho
      by_cases q2 : c = f + 1
      · subst q2
        rw [b2] at e1
        cases e1
      · rw [hi c (by omega)] at e1
        cases e1
  have h2 := h.ext e (by decide) (by decide)
  refine h2.addT ⟨o3, ⟨f + 1, by unfold cQ; rw [cf]; rfl, ⟨_, _, b2⟩, (aI_of b2).1⟩, fun z hz => ?_, fun z hz => ?_⟩
  · unfold cQ at hz; rw [cf] at hz; cases hz
  · unfold cQ at hz; rw [cf] at hz; cases hz
/-- a frame is put into the list of frames -/
theorem HTL.addFl {f n' : Nat} (h : HTL cs dE A Fs Ts nf nt kf kt g4 k4 M) (e : Ext [(13, 0), (13, 1), (13, 2)] [(13, 0)] true M M') (d : Ad1 cs dE M M' A.fl Fs nf kf n') : HTL cs dE A Fs Ts (nf + 1) nt n' kt g4 k4 M' := by
  have o8 := h.lay.ma_0.1
  have o9 := h.lay.st_0.1
  have hfu := h.fu
  refine ⟨h.lay.ext e (by decide), h.c4.ext e (by decide) (by decide), fun a ha => (h.fr a ha).ext e (by decide), fun a ha => (h.th a ha).ext e (by decide), d.li, h.tl.other h.lay.mok h.de.2 (fun q => h.lay.dif.2 q.symm) h.fl e d.fr, fun f hf => h.top f (by rw [← e.xcQ o8 (by decide)]; exact hf), fun f hf => h.free f (by rw [← e.xcQ o9 (by decide)]; exact hf), by rw [e.xcI o9 (by decide)]; omega, by rw [e.xcI o9 (by decide)]; exact h.tu, Nat.lt_of_lt_of_le h.de.1 e.sz.1, ?_⟩
  cases hc : M'.1 dE.1 with
  | none => rfl
  | some x =>
    have := e.fresh dE.1 h.de.2 (by rw [hc]; simp [si_1, si_2, sl_1, sl_2, sl_3, ai_1, ai_2, ai_3, ai_4, al_1, al_2, al_3, al_4])
    have := h.de.1
    omega
theorem HTL.addTl {n' : Nat} (h : HTL cs dE A Fs Ts nf nt kf kt g4 k4 M) (e : Ext [(13, 0), (13, 1), (13, 2)] [(13, 0)] true M M') (d : Ad1 cs dE M M' A.tl Ts nt kt n') : HTL cs dE A Fs Ts nf (nt + 1) kf n' g4 k4 M' := by
  have o8 := h.lay.ma_0.1
  have o9 := h.lay.st_0.1
  have htu := h.tu
  refine ⟨h.lay.ext e (by decide), h.c4.ext e (by decide) (by decide), fun a ha => (h.fr a ha).ext e (by decide), fun a ha => (h.th a ha).ext e (by decide), h.fl.other h.lay.mok h.de.2 h.lay.dif.2 h.tl e d.fr, d.li, fun f hf => h.top f (by rw [← e.xcQ o8 (by decide)]; exact hf), fun f hf => h.free f (by rw [← e.xcQ o9 (by decide)]; exact hf), by rw [e.xcI o9 (by decide)]; exact h.fu, by rw [e.xcI o9 (by decide)]; omega, Nat.lt_of_lt_of_le h.de.1 e.sz.1, ?_⟩
  cases hc : M'.1 dE.1 with
  | none => rfl
  | some x =>
    have := e.fresh dE.1 h.de.2 (by rw [hc]; simp [si_1, si_2, sl_1, sl_2, sl_3, ai_1, ai_2, ai_3, ai_4, al_1, al_2, al_3, al_4])
    have := h.de.1
    omega
theorem st_takeFrame (h : HS cs lim dE A r1 r2 NF g4 k4 Fs Ts M) (hu : (cI M A.st 2).toInt < NF) : S_St_takeFrame cs lim dE M A.st ∧ ∃ f Fs', (F_St_takeFrame cs dE M A.st).1 = some f ∧ Fs' f ∧ (∀ z, Fs z → Fs' z) ∧ HS cs lim dE A r1 r2 NF g4 k4 Fs' Ts (F_St_takeFrame cs dE M A.st).2 ∧ (cI (F_St_takeFrame cs dE M A.st).2 A.st 2).toInt ≤ (cI M A.st 2).toInt + 1 := by
  obtain ⟨nf, nt, kf, kt, h, R⟩ := h
  have L := h.lay
  have o9 := L.st_0.1
  have hfu := h.fu
  have q0 := L.st_0.2
  have Rf := R.f
  have RF := R.F
  have Rt := R.t
  have Rkf := R.kf
  have Rkt := R.kt
  have Rc := R.c
  have Rs := R.s
  unfold S_St_takeFrame F_St_takeFrame
  simp only [mbind_eq]
  by_cases hfree : cQ M A.st 4 = none
  rotate_left
  · simp only [if_neg hfree]
    obtain ⟨f, hf⟩ := Option.ne_none_iff_exists'.mp hfree
    have hF := h.free f hf
    have F0 := h.fr f hF
    rw [hf]
    simp only [Option.getD_some]
    have h2 := h.putQ (ci := 9) (k := 4) (r := cQ M f 4) o9 (Or.inr ⟨by simp [si_1, si_2, sl_1, sl_2, sl_3, ai_1, ai_2, ai_3, ai_4, al_1, al_2, al_3, al_4], fun z hz => F0.be z hz⟩)
    refine ⟨⟨o9, ⟨f, rfl, F0.ok⟩, o9, trivial⟩, f, Fs, rfl, hF, fun _ z => z, ⟨nf, nt, kf, kt, h2, R.f, R.F, R.t, R.kf, R.kt, R.c, R.s⟩, ?_⟩
    rw [cI_put_ne (Or.inr (by decide))]
    omega
  simp only [if_pos hfree, q0, Option.getD_some]
  have sl := h.fl.siz
  have fsz : F_AL_size cs dE M A.fl = cI M A.fl 1 := rfl
  rw [fsz]
  by_cases hlt : cI M A.st 2 < cI M A.fl 1
  · simp only [if_pos hlt]
    have hlt' := Int32.lt_iff_toInt_lt.mp hlt
    obtain ⟨sg, f, fg, hF⟩ := al_get (lim := lim) h.fl (x := cI M A.st 2) (i := (cI M A.st 2).toInt.toNat) (by omega) (by omega) (by omega)
    rw [fg]
    have F0 := h.fr f hF
    have hx : (cI M A.st 2 + 1).toInt = (cI M A.st 2).toInt + 1 := by ((try (simp only [vp_in, Int32.toNatClampNeg, Int32.lt_iff_toInt_lt, Int32.le_iff_toInt_le, ← Int32.toInt_inj, Int32.toInt_add, Int32.toInt_sub, Int32.toInt_mul, Int32.reduceToInt, i32_neg1, Nat.reducePow, Int.reducePow, ne_eq, ge_iff_le, gt_iff_lt] at *)) <;> (first | omega | ((simp (disch := omega) only [bm32] at *) <;> omega)))
    have h2 := h.putI (ci := 9) (k := 2) (x := cI M A.st 2 + 1) o9 (Or.inr (Or.inl ⟨rfl, rfl, by omega, by omega⟩))
    refine ⟨⟨o9, o9, o9, ⟨_, rfl, L.fl⟩, ⟨L.fl, trivial⟩, o9, o9, ⟨_, rfl, L.fl⟩, sg, Or.inr ⟨f, rfl, F0.ok⟩, o9, o9, trivial⟩, f, Fs, rfl, hF, fun _ z => z, ⟨nf, nt, kf, kt, h2, R.f, R.F, R.t, R.kf, R.kt, R.c, R.s⟩, ?_⟩
    rw [cI_put o9 (by decide)]
    omega
  · simp only [if_neg hlt]
    have hge : (nf : Int) ≤ (cI M A.st 2).toInt := by
      have : ¬ (cI M A.st 2).toInt < (cI M A.fl 1).toInt := fun z => hlt (Int32.lt_iff_toInt_lt.mpr z)
      omega
    have gk := gs_le Rkf
    have gk13 := gs_le13 Rkt
    obtain ⟨si, M2, e2, h2, s2, lo2⟩ := fr_init (lim := lim) h (by omega) (by omega)
    rw [e2]
    have L2 := h2.lay
    have hy : (fun z => Fs z ∨ z = M.2.1) M.2.1 := Or.inr rfl
    have fl2 := h2.fl
    obtain ⟨sa, n', d⟩ := al_add (lim := lim) (y := M.2.1) L2.mok L2.bnd fl2 h2.de h2.elF hy Rkf (by omega) (by rw [s2]; show M.2.1 + 2 + 1 ≤ _; omega) (fun full => by
      have k23 := full_f full Rkf (by omega)
      have gk' := gs_le (k := kf + 1) (by omega)
      have : gs (kf + 1) = gs kf + gr kf := rfl
      rw [s2]
      show M.2.2 + 55 + gr kf ≤ _
      omega)
    have e3 := x_AL_add cs lim dE M2 A.fl (some M.2.1) L2.mok sa
    have h3 := h2.addFl (f := M.2.1) e3 d
    have c3 : cI (F_AL_add cs dE M2 A.fl (some M.2.1)).2 A.st 2 = cI M A.st 2 := by
      rw [e3.xcI L2.st_0.1 (by decide), cI_cong (lo2 A.st (o9.lt L.mok))]
    have d4 := d.siz
    generalize F_AL_add cs dE M2 A.fl (some M.2.1) = w at e3 h3 c3 d4 ⊢
    have L3 := h3.lay
    rw [L3.st_0.2]
    simp only [Option.getD_some, c3]
    obtain ⟨sg, f, fg, hF⟩ := al_get (lim := lim) h3.fl (x := cI M A.st 2) (i := (cI M A.st 2).toInt.toNat) (by omega) (by omega) (by omega)
    rw [fg]
    have F0 := h3.fr f hF
    have hx : (cI M A.st 2 + 1).toInt = (cI M A.st 2).toInt + 1 := by ((try (simp only [vp_in, Int32.toNatClampNeg, Int32.lt_iff_toInt_lt, Int32.le_iff_toInt_le, ← Int32.toInt_inj, Int32.toInt_add, Int32.toInt_sub, Int32.toInt_mul, Int32.reduceToInt, i32_neg1, Nat.reducePow, Int.reducePow, ne_eq, ge_iff_le, gt_iff_lt] at *)) <;> (first | omega | ((simp (disch := omega) only [bm32] at *) <;> omega)))
    have h4 := h3.putI (ci := 9) (k := 2) (x := cI M A.st 2 + 1) L3.st_0.1 (Or.inr (Or.inl ⟨rfl, rfl, by omega, by omega⟩))
    refine ⟨⟨o9, o9, o9, ⟨_, rfl, L.fl⟩, ⟨L.fl, trivial⟩, o9, ⟨by omega, by omega⟩, si, ⟨_, rfl, L2.fl⟩, sa, L3.st_0.1, L3.st_0.1, ⟨_, rfl, L3.fl⟩, sg, Or.inr ⟨f, rfl, F0.ok⟩, L3.st_0.1, L3.st_0.1, trivial⟩, f, (fun z => Fs z ∨ z = M.2.1), rfl, hF, fun z hz => Or.inl hz, ⟨nf + 1, nt, n', kt, h4, by omega, RF, Rt, ?_, Rkt, ?_, ?_⟩, ?_⟩
    · rcases d4 with ⟨z1, -⟩ | ⟨z1, -, z3⟩
      · omega
      · have := full_f z3 Rkf (by omega); omega
    · show w.2.2.1 + r1 + 2 * NF + 2060 ≤ _
      rcases d4 with ⟨z1, z2⟩ | ⟨z1, z2, z3⟩
      · rw [z2, s2, z1]; show M.2.1 + 2 + r1 + _ + _ ≤ _; omega
      · rw [z2, s2, z1]; show M.2.1 + 2 + 1 + r1 + _ + _ ≤ _; omega
    · show w.2.2.2 + r2 + 55 * NF + 17000 + 323900 ≤ _
      rcases d4 with ⟨z1, z2⟩ | ⟨z1, z2, z3⟩
      · rw [z2, s2, z1]; show M.2.2 + 55 + r2 + _ + _ + _ ≤ _; omega
      · have : gs (kf + 1) = gs kf + gr kf := rfl
        rw [z2, s2, z1, this]; show M.2.2 + 55 + gr kf + r2 + _ + _ + _ ≤ _; omega
    · rw [cI_put L3.st_0.1 (by decide)]
      omega
end
end
section
/-! pure rows, the class: what is done to frames and things -/
section
variable {cs : Nat → ClassId} {lim dE : Nat × Nat} {A : Ad} {Fs Ts : Nat → Prop} {nf nt kf kt r1 r2 NF : Nat} {g4 : Nat → Int32} {k4 : Nat} {M M' : gMem} {a b t n : Nat}
theorem HS.map {Fs' Ts' : Nat → Prop} (h : HS cs lim dE A r1 r2 NF g4 k4 Fs Ts M) (hs : M'.2 = M.2) (f : ∀ nf nt kf kt, HTL cs dE A Fs Ts nf nt kf kt g4 k4 M → HTL cs dE A Fs' Ts' nf nt kf kt g4 k4 M') : HS cs lim dE A r1 r2 NF g4 k4 Fs' Ts' M' := by
  obtain ⟨nf, nt, kf, kt, h, R⟩ := h
  exact ⟨nf, nt, kf, kt, f _ _ _ _ h, R.f, R.F, R.t, R.kf, R.kt, by rw [hs]; exact R.c, by rw [hs]; exact R.s⟩
theorem HS.lay (h : HS cs lim dE A r1 r2 NF g4 k4 Fs Ts M) : Lay cs A M := by obtain ⟨nf, nt, kf, kt, h, R⟩ := h; exact h.lay
theorem HS.fr (h : HS cs lim dE A r1 r2 NF g4 k4 Fs Ts M) (ha : Fs a) : FrOk cs Fs Ts M a := by obtain ⟨nf, nt, kf, kt, h, R⟩ := h; exact h.fr a ha
theorem HS.th (h : HS cs lim dE A r1 r2 NF g4 k4 Fs Ts M) (ha : Ts a) : ThOk cs Fs M a := by obtain ⟨nf, nt, kf, kt, h, R⟩ := h; exact h.th a ha
theorem HS.c4 (h : HS cs lim dE A r1 r2 NF g4 k4 Fs Ts M) : CeIs cs M A.c4 g4 k4 := by obtain ⟨nf, nt, kf, kt, h, R⟩ := h; exact h.c4
theorem HS.top (h : HS cs lim dE A r1 r2 NF g4 k4 Fs Ts M) : ∀ f, cQ M A.ma 10 = some f → Fs f := by obtain ⟨nf, nt, kf, kt, h, R⟩ := h; exact h.top
theorem HS.free (h : HS cs lim dE A r1 r2 NF g4 k4 Fs Ts M) : ∀ f, cQ M A.st 4 = some f → Fs f := by obtain ⟨nf, nt, kf, kt, h, R⟩ := h; exact h.free
theorem HS.fu (h : HS cs lim dE A r1 r2 NF g4 k4 Fs Ts M) : 0 ≤ (cI M A.st 2).toInt := by obtain ⟨nf, nt, kf, kt, h, R⟩ := h; exact h.fu.1
theorem HS.tu (h : HS cs lim dE A r1 r2 NF g4 k4 Fs Ts M) : 0 ≤ (cI M A.st 3).toInt := by obtain ⟨nf, nt, kf, kt, h, R⟩ := h; exact h.tu.1
theorem HS.ext {W V : List (Nat × Nat)} {al : Bool} (h : HS cs lim dE A r1 r2 NF g4 k4 Fs Ts M) (hs : M'.2 = M.2) (e : Ext W V al M M') (hW : W.all (fun w => !BAD.contains w && w != (2, 0)) = true) (hV : V.all (fun w => w != (13, 0) && w != (2, 0)) = true) : HS cs lim dE A r1 r2 NF g4 k4 Fs Ts M' := h.map hs (fun _ _ _ _ z => z.ext e hW hV)
theorem HS.putI (h : HS cs lim dE A r1 r2 NF g4 k4 Fs Ts M) {x : Int32} (ho : cOk 10 M a) (hx : 10 ≤ x.toInt ∧ x.toInt ≤ 50) : HS cs lim dE A r1 r2 NF g4 k4 Fs Ts (cP 10 M a 1 (.int x)) := h.map rfl (fun _ _ _ _ z => z.putI ho (Or.inl ⟨rfl, rfl, hx.1, hx.2⟩))
theorem HS.putQ {ci k : Nat} (h : HS cs lim dE A r1 r2 NF g4 k4 Fs Ts M) {r : Option Nat} (ho : cOk ci M a) (hf : (ci = 10 ∧ k = 3 ∧ ∀ z, r = some z → Ts z) ∨ (((ci = 10 ∧ k = 4) ∨ (ci = 11 ∧ k = 4) ∨ (ci = 11 ∧ k = 5) ∨ (ci = 8 ∧ k = 10) ∨ (ci = 9 ∧ k = 4)) ∧ ∀ z, r = some z → Fs z)) : HS cs lim dE A r1 r2 NF g4 k4 Fs Ts (cP ci M a k (va_rf r)) := h.map rfl (fun _ _ _ _ z => z.putQ ho hf)
/-- an int field of no weight -/
theorem HS.putN {ci k : Nat} (h : HS cs lim dE A r1 r2 NF g4 k4 Fs Ts M) {x : Int32} (ho : cOk ci M a) (h2 : (ckd ci).getD k 0 ≠ 2) (hW : ([(ci, k)] : List (Nat × Nat)).all (fun w => !BAD.contains w && w != (2, 0)) = true) : HS cs lim dE A r1 r2 NF g4 k4 Fs Ts (cP ci M a k (.int x)) :=
  h.ext rfl ((Ext.rf (W := [(ci, k)]) (V := []) (al := false) h.lay.mok).putI k ho (by simp [si_1, si_2, sl_1, sl_2, sl_3, ai_1, ai_2, ai_3, ai_4, al_1, al_2, al_3, al_4]) h2) hW (by decide)
/-- what slots or names hold -/
theorem HS.arr {f : Nat → Int32} {ci : Nat} (h : HS cs lim dE A r1 r2 NF g4 k4 Fs Ts M) (ho : cOk ci M a) (hci : ci = 10 ∨ ci = 11) (hq : cQ M a 0 = some b) (hb : aIk (cs 0) M b) : HS cs lim dE A r1 r2 NF g4 k4 Fs Ts (gup M b (1, .inl (cs 0, aL M b, .inl f))) := by
  have e : Ext [] [(10, 0), (11, 0)] false M (gup M b (1, .inl (cs 0, aL M b, .inl f))) := Ext.arrI h.lay.mok (Ext.rf h.lay.mok) hb (Or.inr (fun z => z a ci 0 (by rcases hci with rfl | rfl <;> decide) (by rcases hci with rfl | rfl <;> decide) ho hq))
  exact h.ext rfl e (by decide) (by decide)
theorem fr_valueOf (h : HS cs lim dE A r1 r2 NF g4 k4 Fs Ts M) (ha : Fs a) (x : Int32) : S_Fr_valueOf cs lim M a x := by
  have F0 := h.fr ha
  obtain ⟨b, b1, b2, b3⟩ := F0.sl
  unfold S_Fr_valueOf
  by_cases h1 : x < 0
  · rw [if_pos h1]; trivial
  · rw [if_neg h1]
    by_cases h2 : 10 ≤ x
    · rw [if_pos h2]; trivial
    · rw [if_neg h2, b1]
      simp only [Option.getD_some]
      exact ⟨F0.ok, ⟨trivial, b2⟩, by rw [b3]; ((try (simp only [vp_in, Int32.toNatClampNeg, Int32.lt_iff_toInt_lt, Int32.le_iff_toInt_le, ← Int32.toInt_inj, Int32.toInt_add, Int32.toInt_sub, Int32.toInt_mul, Int32.reduceToInt, i32_neg1, Nat.reducePow, Int.reducePow, ne_eq, ge_iff_le, gt_iff_lt] at *)) <;> (first | omega | ((simp (disch := omega) only [bm32] at *) <;> omega))), trivial⟩
theorem fr_give (h : HS cs lim dE A r1 r2 NF g4 k4 Fs Ts M) (ha : Fs a) (x v : Int32) : S_Fr_give cs lim M a x v ∧ HS cs lim dE A r1 r2 NF g4 k4 Fs Ts (F_Fr_give cs M a x v) := by
  have F0 := h.fr ha
  obtain ⟨b, b1, b2, b3⟩ := F0.sl
  unfold S_Fr_give F_Fr_give
  by_cases h1 : x < 0
  · rw [if_pos h1, if_pos h1]; exact ⟨trivial, h⟩
  · rw [if_neg h1, if_neg h1]
    by_cases h2 : 10 ≤ x
    · rw [if_pos h2, if_pos h2]; exact ⟨trivial, h⟩
    · rw [if_neg h2, if_neg h2, b1]
      simp only [Option.getD_some]
      exact ⟨⟨F0.ok, ⟨trivial, b2⟩, by rw [b3]; ((try (simp only [vp_in, Int32.toNatClampNeg, Int32.lt_iff_toInt_lt, Int32.le_iff_toInt_le, ← Int32.toInt_inj, Int32.toInt_add, Int32.toInt_sub, Int32.toInt_mul, Int32.reduceToInt, i32_neg1, Nat.reducePow, Int.reducePow, ne_eq, ge_iff_le, gt_iff_lt] at *)) <;> (first | omega | ((simp (disch := omega) only [bm32] at *) <;> omega))), trivial⟩, h.arr F0.ok (Or.inl rfl) b1 b2⟩
theorem th_give (h : HS cs lim dE A r1 r2 NF g4 k4 Fs Ts M) (ha : Ts a) (x v : Int32) : S_Th_give cs lim M a x v ∧ HS cs lim dE A r1 r2 NF g4 k4 Fs Ts (F_Th_give cs M a x v) := by
  have F0 := h.th ha
  obtain ⟨b, b1, b2, b3⟩ := F0.nm
  unfold S_Th_give F_Th_give
  by_cases h1 : x < 0
  · rw [if_pos h1, if_pos h1]; exact ⟨trivial, h⟩
  · rw [if_neg h1, if_neg h1]
    by_cases h2 : 10 ≤ x
    · rw [if_pos h2, if_pos h2]; exact ⟨trivial, h⟩
    · rw [if_neg h2, if_neg h2, b1]
      simp only [Option.getD_some]
      exact ⟨⟨F0.ok, ⟨trivial, b2⟩, by rw [b3]; ((try (simp only [vp_in, Int32.toNatClampNeg, Int32.lt_iff_toInt_lt, Int32.le_iff_toInt_le, ← Int32.toInt_inj, Int32.toInt_add, Int32.toInt_sub, Int32.toInt_mul, Int32.reduceToInt, i32_neg1, Nat.reducePow, Int.reducePow, ne_eq, ge_iff_le, gt_iff_lt] at *)) <;> (first | omega | ((simp (disch := omega) only [bm32] at *) <;> omega))), trivial⟩, h.arr F0.ok (Or.inr rfl) b1 b2⟩
theorem fr_push (h : HS cs lim dE A r1 r2 NF g4 k4 Fs Ts M) (ha : Fs a) (v : Int32) : S_Fr_push cs lim M a v ∧ HS cs lim dE A r1 r2 NF g4 k4 Fs Ts (F_Fr_push cs M a v) := by
  have F0 := h.fr ha
  obtain ⟨b, b1, b2, b3⟩ := F0.sl
  have hh := F0.ht
  unfold S_Fr_push F_Fr_push
  rw [b1]
  simp only [Option.getD_some, b3]
  have h50 : (nI 50).toInt = 50 := rfl
  by_cases h1 : nI 50 ≤ cI M a 1
  · simp only [if_pos h1]
    exact ⟨⟨F0.ok, F0.ok, ⟨trivial, ⟨_, b2.eq⟩⟩, trivial⟩, h⟩
  · simp only [if_neg h1]
    have h2 := h.arr (f := upd (aF M b) (cI M a 1).toNatClampNeg v) F0.ok (Or.inl rfl) b1 b2
    have hne : a ≠ b := fun q => by subst q; exact F0.ok.notI b2
    have e : (gup M b (1, .inl (cs 0, aL M b, .inl (upd (aF M b) (cI M a 1).toNatClampNeg v)))).1 a = M.1 a := gup_n hne
    have e' : aPi (cs 0) M b (cI M a 1).toNatClampNeg v = gup M b (1, .inl (cs 0, aL M b, .inl (upd (aF M b) (cI M a 1).toNatClampNeg v))) := rfl
    rw [e']
    have F2 := h2.fr ha
    rw [cI_cong e]
    have hlt : (cI M a 1).toInt < 50 := by
      rcases Int.lt_or_le (cI M a 1).toInt 50 with z | z
      · exact z
      · exact absurd (Int32.le_iff_toInt_le.mpr (by rw [h50]; exact z)) h1
    exact ⟨⟨F0.ok, F0.ok, ⟨trivial, ⟨_, b2.eq⟩⟩, F0.ok, F0.ok, ⟨trivial, b2⟩, by ((try (simp only [vp_in, Int32.toNatClampNeg, Int32.lt_iff_toInt_lt, Int32.le_iff_toInt_le, ← Int32.toInt_inj, Int32.toInt_add, Int32.toInt_sub, Int32.toInt_mul, Int32.reduceToInt, i32_neg1, Nat.reducePow, Int.reducePow, ne_eq, ge_iff_le, gt_iff_lt] at *)) <;> (first | omega | ((simp (disch := omega) only [bm32] at *) <;> omega))), F2.ok, F2.ok, trivial⟩, h2.putI F2.ok (by constructor <;> ((try (simp only [vp_in, Int32.toNatClampNeg, Int32.lt_iff_toInt_lt, Int32.le_iff_toInt_le, ← Int32.toInt_inj, Int32.toInt_add, Int32.toInt_sub, Int32.toInt_mul, Int32.reduceToInt, i32_neg1, Nat.reducePow, Int.reducePow, ne_eq, ge_iff_le, gt_iff_lt] at *)) <;> (first | omega | ((simp (disch := omega) only [bm32] at *) <;> omega))))⟩
theorem fr_pop (h : HS cs lim dE A r1 r2 NF g4 k4 Fs Ts M) (ha : Fs a) : S_Fr_pop cs lim M a ∧ HS cs lim dE A r1 r2 NF g4 k4 Fs Ts (F_Fr_pop cs M a).2 := by
  have F0 := h.fr ha
  have hh := F0.ht
  unfold S_Fr_pop F_Fr_pop
  have h10 : (10 : Int32).toInt = 10 := rfl
  by_cases h1 : 10 < cI M a 1
  · simp only [if_pos h1]
    have hlt := Int32.lt_iff_toInt_lt.mp h1
    rw [h10] at hlt
    have h2 := h.putI (x := cI M a 1 - 1) F0.ok (by constructor <;> ((try (simp only [vp_in, Int32.toNatClampNeg, Int32.lt_iff_toInt_lt, Int32.le_iff_toInt_le, ← Int32.toInt_inj, Int32.toInt_add, Int32.toInt_sub, Int32.toInt_mul, Int32.reduceToInt, i32_neg1, Nat.reducePow, Int.reducePow, ne_eq, ge_iff_le, gt_iff_lt] at *)) <;> (first | omega | ((simp (disch := omega) only [bm32] at *) <;> omega))))
    have F2 := h2.fr ha
    obtain ⟨b, b1, b2, b3⟩ := F2.sl
    have hv : cI (cP 10 M a 1 (.int (cI M a 1 - 1))) a 1 = cI M a 1 - 1 := cI_put F0.ok (by decide)
    rw [b1]
    simp only [Option.getD_some]
    exact ⟨⟨F0.ok, F0.ok, F0.ok, F2.ok, F2.ok, ⟨trivial, b2⟩, by rw [hv, b3]; ((try (simp only [vp_in, Int32.toNatClampNeg, Int32.lt_iff_toInt_lt, Int32.le_iff_toInt_le, ← Int32.toInt_inj, Int32.toInt_add, Int32.toInt_sub, Int32.toInt_mul, Int32.reduceToInt, i32_neg1, Nat.reducePow, Int.reducePow, ne_eq, ge_iff_le, gt_iff_lt] at *)) <;> (first | omega | ((simp (disch := omega) only [bm32] at *) <;> omega))), trivial⟩, h2⟩
  · simp only [if_neg h1]
    exact ⟨⟨F0.ok, trivial⟩, h⟩
theorem fr_keepNames (h : HS cs lim dE A r1 r2 NF g4 k4 Fs Ts M) (ha : Fs a) (ht : Ts t) : S_Fr_keepNames cs lim M a (some t) ∧ HS cs lim dE A r1 r2 NF g4 k4 Fs Ts (F_Fr_keepNames cs M a (some t)) := by
  have F0 := h.fr ha
  obtain ⟨b, b1, b2, b3⟩ := F0.sl
  have T0 := h.th ht
  obtain ⟨c, c1, c2, c3⟩ := T0.nm
  unfold S_Fr_keepNames F_Fr_keepNames
  simp only [Option.getD_some]
  rw [b1, c1]
  simp only [Option.getD_some, b3, c3]
  exact ⟨⟨F0.ok, ⟨t, rfl, T0.ok⟩, ⟨trivial, b2⟩, ⟨trivial, c2⟩, by decide, trivial⟩, h.arr T0.ok (Or.inr rfl) c1 c2⟩
theorem fr_open (h : HS cs lim dE A r1 r2 NF g4 k4 Fs Ts M) (ha : Fs a) {r : Option Nat} (ht : ∀ t, r = some t → Ts t) (x : Int32) : S_Fr_open cs lim M a r x ∧ HS cs lim dE A r1 r2 NF g4 k4 Fs Ts (F_Fr_open cs M a r x) := by
  have F0 := h.fr ha
  have key : ∀ M, HS cs lim dE A r1 r2 NF g4 k4 Fs Ts M → cOk 10 M a ∧ cOk 10 (cP 10 M a 2 (.int x)) a ∧ cOk 10 (cP 10 (cP 10 M a 2 (.int x)) a 1 (.int 10)) a ∧ HS cs lim dE A r1 r2 NF g4 k4 Fs Ts (cP 10 (cP 10 (cP 10 M a 2 (.int x)) a 1 (.int 10)) a 3 (va_rf (none : Option Nat))) := fun M h => by
    have F1 := h.fr ha
    have h2 := h.putN (ci := 10) (k := 2) (x := x) F1.ok (by decide) (by decide)
    have F2 := h2.fr ha
    have h3 := h2.putI (x := 10) F2.ok (by decide)
    have F3 := h3.fr ha
    exact ⟨F1.ok, F2.ok, F3.ok, h3.putQ (ci := 10) (k := 3) F3.ok (Or.inl ⟨rfl, rfl, fun z hz => by cases hz⟩)⟩
  unfold S_Fr_open F_Fr_open
  cases r with
  | none =>
    simp only [if_true]
    obtain ⟨p1, p2, p3, p4⟩ := key M h
    exact ⟨⟨p1, p2, p3, trivial⟩, p4⟩
  | some t =>
    have hn : ¬ (some t : Option Nat) = none := by simp [si_1, si_2, sl_1, sl_2, sl_3, ai_1, ai_2, ai_3, ai_4, al_1, al_2, al_3, al_4]
    simp only [if_neg hn, Option.getD_some]
    have T0 := h.th (ht t rfl)
    obtain ⟨b, b1, b2, b3⟩ := F0.sl
    obtain ⟨c, c1, c2, c3⟩ := T0.nm
    rw [b1, c1]
    simp only [Option.getD_some, b3, c3]
    have h1 := h.arr (f := va_cpy (aF M c) (aF M b) (0 : Int32).toNatClampNeg (0 : Int32).toNatClampNeg (10 : Int32).toNatClampNeg) F0.ok (Or.inl rfl) b1 b2
    obtain ⟨p1, p2, p3, p4⟩ := key _ h1
    exact ⟨⟨⟨t, rfl, T0.ok⟩, F0.ok, ⟨trivial, c2⟩, ⟨trivial, b2⟩, by decide, p1, p2, p3, trivial⟩, p4⟩
theorem th_make (h : HS cs lim dE A r1 r2 NF g4 k4 Fs Ts M) (ht : Ts t) (x : Int32) : S_Th_make cs lim M t x ∧ HS cs lim dE A r1 r2 NF g4 k4 Fs Ts (F_Th_make cs M t x) := by
  have h1 := h.putN (ci := 11) (k := 1) (x := x) (h.th ht).ok (by decide) (by decide)
  have h2 := h1.putN (ci := 11) (k := 2) (x := 0) (h1.th ht).ok (by decide) (by decide)
  have h3 := h2.putQ (ci := 11) (k := 4) (r := none) (h2.th ht).ok (Or.inr ⟨by simp [si_1, si_2, sl_1, sl_2, sl_3, ai_1, ai_2, ai_3, ai_4, al_1, al_2, al_3, al_4], fun z hz => by cases hz⟩)
  exact ⟨⟨(h.th ht).ok, (h1.th ht).ok, (h2.th ht).ok, (h3.th ht).ok, trivial⟩, h3.putQ (ci := 11) (k := 5) (r := none) (h3.th ht).ok (Or.inr ⟨by simp [si_1, si_2, sl_1, sl_2, sl_3, ai_1, ai_2, ai_3, ai_4, al_1, al_2, al_3, al_4], fun z hz => by cases hz⟩)⟩
theorem th_hold (h : HS cs lim dE A r1 r2 NF g4 k4 Fs Ts M) (ht : Ts t) {u l : Option Nat} (hu : ∀ z, u = some z → Fs z) (hl : ∀ z, l = some z → Fs z) (x : Int32) : S_Th_hold cs lim M t u l x ∧ HS cs lim dE A r1 r2 NF g4 k4 Fs Ts (F_Th_hold cs M t u l x) := by
  have h1 := h.putN (ci := 11) (k := 2) (x := 1) (h.th ht).ok (by decide) (by decide)
  have h2 := h1.putN (ci := 11) (k := 3) (x := 0) (h1.th ht).ok (by decide) (by decide)
  have h3 := h2.putQ (ci := 11) (k := 4) (r := u) (h2.th ht).ok (Or.inr ⟨by simp [si_1, si_2, sl_1, sl_2, sl_3, ai_1, ai_2, ai_3, ai_4, al_1, al_2, al_3, al_4], hu⟩)
  have h4 := h3.putQ (ci := 11) (k := 5) (r := l) (h3.th ht).ok (Or.inr ⟨by simp [si_1, si_2, sl_1, sl_2, sl_3, ai_1, ai_2, ai_3, ai_4, al_1, al_2, al_3, al_4], hl⟩)
  exact ⟨⟨(h.th ht).ok, (h1.th ht).ok, (h2.th ht).ok, (h3.th ht).ok, (h4.th ht).ok, trivial⟩, h4.putN (ci := 11) (k := 6) (x := x) (h4.th ht).ok (by decide) (by decide)⟩
theorem st_giveBack (h : HS cs lim dE A r1 r2 NF g4 k4 Fs Ts M) (ha : Fs a) : S_St_giveBack cs lim M A.st (some a) ∧ HS cs lim dE A r1 r2 NF g4 k4 Fs Ts (F_St_giveBack cs M A.st (some a)) := by
  unfold S_St_giveBack F_St_giveBack
  simp only [Option.getD_some]
  have h1 := h.putQ (ci := 10) (k := 4) (r := cQ M A.st 4) (h.fr ha).ok (Or.inr ⟨by simp [si_1, si_2, sl_1, sl_2, sl_3, ai_1, ai_2, ai_3, ai_4, al_1, al_2, al_3, al_4], h.free⟩)
  have h2 := h1.putQ (ci := 10) (k := 3) (r := none) (h1.fr ha).ok (Or.inl ⟨rfl, rfl, fun z hz => by cases hz⟩)
  exact ⟨⟨h.lay.st_0.1, ⟨a, rfl, (h.fr ha).ok⟩, ⟨a, rfl, (h1.fr ha).ok⟩, h2.lay.st_0.1, trivial⟩, h2.putQ (ci := 9) (k := 4) (r := some a) h2.lay.st_0.1 (Or.inr ⟨by simp [si_1, si_2, sl_1, sl_2, sl_3, ai_1, ai_2, ai_3, ai_4, al_1, al_2, al_3, al_4], fun z hz => by cases hz; exact ha⟩)⟩
theorem st_thingAt (h : HS cs lim dE A r1 r2 NF g4 k4 Fs Ts M) (x : Int32) : S_St_thingAt cs lim dE M A.st x ∧ (F_St_thingAt cs dE M A.st x = none ∨ ∃ t, F_St_thingAt cs dE M A.st x = some t ∧ Ts t) := by
  obtain ⟨nf, nt, kf, kt, h, R⟩ := h
  have L := h.lay
  have o9 := L.st_0.1
  have Rt := R.t
  unfold S_St_thingAt F_St_thingAt
  simp only [mbind_eq]
  by_cases h1 : x < 0
  · simp only [if_pos h1]; exact ⟨trivial, Or.inl trivial⟩
  · simp only [if_neg h1]
    by_cases h2 : cI M A.st 3 ≤ x
    · simp only [if_pos h2]; exact ⟨⟨o9, trivial⟩, Or.inl trivial⟩
    · simp only [if_neg h2]
      rw [L.st_1.2]
      simp only [Option.getD_some]
      have fsz : F_AL_size cs dE M A.tl = cI M A.tl 1 := rfl
      rw [fsz]
      by_cases h3 : cI M A.tl 1 ≤ x
      · simp only [if_pos h3]; exact ⟨⟨o9, o9, ⟨_, rfl, L.tl⟩, ⟨L.tl, trivial⟩, trivial⟩, Or.inl trivial⟩
      · simp only [if_neg h3]
        have sl := h.tl.siz
        obtain ⟨sg, t, fg, hT⟩ := al_get (lim := lim) h.tl (x := x) (i := x.toInt.toNat) (by ((try (simp only [vp_in, Int32.toNatClampNeg, Int32.lt_iff_toInt_lt, Int32.le_iff_toInt_le, ← Int32.toInt_inj, Int32.toInt_add, Int32.toInt_sub, Int32.toInt_mul, Int32.reduceToInt, i32_neg1, Nat.reducePow, Int.reducePow, ne_eq, ge_iff_le, gt_iff_lt] at *)) <;> (first | omega | ((simp (disch := omega) only [bm32] at *) <;> omega)))) (by ((try (simp only [vp_in, Int32.toNatClampNeg, Int32.lt_iff_toInt_lt, Int32.le_iff_toInt_le, ← Int32.toInt_inj, Int32.toInt_add, Int32.toInt_sub, Int32.toInt_mul, Int32.reduceToInt, i32_neg1, Nat.reducePow, Int.reducePow, ne_eq, ge_iff_le, gt_iff_lt] at *)) <;> (first | omega | ((simp (disch := omega) only [bm32] at *) <;> omega)))) (by omega)
        rw [fg]
        exact ⟨⟨o9, o9, ⟨_, rfl, L.tl⟩, ⟨L.tl, trivial⟩, o9, ⟨_, rfl, L.tl⟩, sg, Or.inr ⟨t, rfl, (h.th t hT).ok⟩, trivial⟩, Or.inr ⟨t, rfl, hT⟩⟩
theorem st_takeThing (h : HS cs lim dE A r1 r2 NF g4 k4 Fs Ts M) (hu : (cI M A.st 3).toInt < 1000) : S_St_takeThing cs lim dE M A.st ∧ ∃ Ts', (∀ z, Ts z → Ts' z) ∧ HS cs lim dE A r1 r2 NF g4 k4 Fs Ts' (F_St_takeThing cs dE M A.st).2 ∧ (cI (F_St_takeThing cs dE M A.st).2 A.st 3).toInt = (cI M A.st 3).toInt + 1 ∧ cI (F_St_takeThing cs dE M A.st).2 A.st 2 = cI M A.st 2 := by
  obtain ⟨nf, nt, kf, kt, h, R⟩ := h
  have L := h.lay
  have o9 := L.st_0.1
  have htu := h.tu
  have q0 := L.st_1.2
  have Rf := R.f
  have RF := R.F
  have Rt := R.t
  have Rkf := R.kf
  have Rkt := R.kt
  have Rc := R.c
  have Rs := R.s
  have hx : (cI M A.st 3 + 1).toInt = (cI M A.st 3).toInt + 1 := by ((try (simp only [vp_in, Int32.toNatClampNeg, Int32.lt_iff_toInt_lt, Int32.le_iff_toInt_le, ← Int32.toInt_inj, Int32.toInt_add, Int32.toInt_sub, Int32.toInt_mul, Int32.reduceToInt, i32_neg1, Nat.reducePow, Int.reducePow, ne_eq, ge_iff_le, gt_iff_lt] at *)) <;> (first | omega | ((simp (disch := omega) only [bm32] at *) <;> omega)))
  unfold S_St_takeThing F_St_takeThing
  simp only [mbind_eq, q0, Option.getD_some]
  have sl := h.tl.siz
  have fsz : F_AL_size cs dE M A.tl = cI M A.tl 1 := rfl
  rw [fsz]
  by_cases hlt : cI M A.st 3 < cI M A.tl 1
  · simp only [if_pos hlt]
    have hlt' := Int32.lt_iff_toInt_lt.mp hlt
    have h2 := h.putI (ci := 9) (k := 3) (x := cI M A.st 3 + 1) o9 (Or.inr (Or.inr ⟨rfl, rfl, by omega, by omega⟩))
    refine ⟨⟨o9, o9, ⟨_, rfl, L.tl⟩, ⟨L.tl, trivial⟩, o9, o9, h2.lay.st_0.1, trivial⟩, Ts, fun _ z => z, ⟨nf, nt, kf, kt, h2, R.f, R.F, R.t, R.kf, R.kt, R.c, R.s⟩, ?_, ?_⟩
    · rw [cI_put o9 (by decide)]; exact hx
    · rw [cI_put_ne (Or.inr (by decide))]
  · simp only [if_neg hlt]
    have hge : (nt : Int) ≤ (cI M A.st 3).toInt := by
      have : ¬ (cI M A.st 3).toInt < (cI M A.tl 1).toInt := fun z => hlt (Int32.lt_iff_toInt_lt.mpr z)
      omega
    have gk := gs_le Rkf
    have gk13 := gs_le13 Rkt
    obtain ⟨si, M2, e2, h2, s2, lo2⟩ := th_init (lim := lim) h (by omega) (by omega)
    rw [e2]
    have L2 := h2.lay
    have hy : (fun z => Ts z ∨ z = M.2.1) M.2.1 := Or.inr rfl
    have tl2 := h2.tl
    obtain ⟨sa, n', d⟩ := al_add (lim := lim) (y := M.2.1) L2.mok L2.bnd tl2 h2.de h2.elT hy (by omega) (by omega) (by rw [s2]; show M.2.1 + 2 + 1 ≤ _; omega) (fun full => by
      have k12 := full_t full Rkt (by omega)
      have gk' := gs_le13 (k := kt + 1) (by omega)
      have : gs (kt + 1) = gs kt + gr kt := rfl
      rw [s2]
      show M.2.2 + 17 + gr kt ≤ _
      omega)
    have e3 := x_AL_add cs lim dE M2 A.tl (some M.2.1) L2.mok sa
    have h3 := h2.addTl e3 d
    have c3 : cI (F_AL_add cs dE M2 A.tl (some M.2.1)).2 A.st 3 = cI M A.st 3 := by
      rw [e3.xcI L2.st_0.1 (by decide), cI_cong (lo2 A.st (o9.lt L.mok))]
    have c2 : cI (F_AL_add cs dE M2 A.tl (some M.2.1)).2 A.st 2 = cI M A.st 2 := by
      rw [e3.xcI L2.st_0.1 (by decide), cI_cong (lo2 A.st (o9.lt L.mok))]
    have d4 := d.siz
    generalize F_AL_add cs dE M2 A.tl (some M.2.1) = w at e3 h3 c3 c2 d4 ⊢
    have L3 := h3.lay
    rw [c3]
    have h4 := h3.putI (ci := 9) (k := 3) (x := cI M A.st 3 + 1) L3.st_0.1 (Or.inr (Or.inr ⟨rfl, rfl, by omega, by omega⟩))
    refine ⟨⟨o9, o9, ⟨_, rfl, L.tl⟩, ⟨L.tl, trivial⟩, o9, ⟨by omega, by omega⟩, si, ⟨_, rfl, L2.tl⟩, sa, L3.st_0.1, L3.st_0.1, h4.lay.st_0.1, trivial⟩, (fun z => Ts z ∨ z = M.2.1), fun z hz => Or.inl hz, ⟨nf, nt + 1, kf, n', h4, by omega, RF, by omega, Rkf, ?_, ?_, ?_⟩, ?_, ?_⟩
    · rcases d4 with ⟨z1, -⟩ | ⟨z1, -, z3⟩
      · omega
      · have := full_t z3 Rkt (by omega); omega
    · show w.2.2.1 + r1 + 2 * NF + 2060 ≤ _
      rcases d4 with ⟨z1, z2⟩ | ⟨z1, z2, z3⟩
      · rw [z2, s2, z1]; show M.2.1 + 2 + r1 + _ + _ ≤ _; omega
      · rw [z2, s2, z1]; show M.2.1 + 2 + 1 + r1 + _ + _ ≤ _; omega
    · show w.2.2.2 + r2 + 55 * NF + 17000 + 323900 ≤ _
      rcases d4 with ⟨z1, z2⟩ | ⟨z1, z2, z3⟩
      · rw [z2, s2, z1]; show M.2.2 + 17 + r2 + _ + _ + _ ≤ _; omega
      · have : gs (kt + 1) = gs kt + gr kt := rfl
        rw [z2, s2, z1, this]; show M.2.2 + 17 + gr kt + r2 + _ + _ + _ ≤ _; omega
    · rw [cI_put L3.st_0.1 (by decide)]; exact hx
    · rw [cI_put_ne (Or.inr (by decide))]; exact c2
end
end
section
/-! pure rows, the class: the machine's counts; its small steps -/
def MC (A : Ad) (NF : Nat) (b st sf : Int) (M : gMem) : Prop := (0 ≤ (cI M A.ma 7).toInt ∧ (cI M A.ma 7).toInt ≤ 1000) ∧ ((cI M A.st 3).toInt + st ≤ (cI M A.ma 7).toInt) ∧ ((cI M A.st 2).toInt + sf ≤ 1 + (cI M A.ma 7).toInt + (cI M A.ma 6).toInt) ∧ (0 ≤ (cI M A.ma 11).toInt ∧ (cI M A.ma 11).toInt ≤ 200) ∧ (0 ≤ (cI M A.ma 12).toInt ∧ (cI M A.ma 12).toInt ≤ (cI M A.ma 11).toInt) ∧ ((cI M A.ma 6).toInt = b + (cI M A.ma 12).toInt) ∧ (0 ≤ b ∧ b + 1201 ≤ NF ∧ b ≤ 2000000)
theorem MC.tc {A : Ad} {NF : Nat} {b st sf : Int} {M : gMem} (self : MC A NF b st sf M) : 0 ≤ (cI M A.ma 7).toInt ∧ (cI M A.ma 7).toInt ≤ 1000 := self.1
theorem MC.tu {A : Ad} {NF : Nat} {b st sf : Int} {M : gMem} (self : MC A NF b st sf M) : (cI M A.st 3).toInt + st ≤ (cI M A.ma 7).toInt := self.2.1
theorem MC.fu {A : Ad} {NF : Nat} {b st sf : Int} {M : gMem} (self : MC A NF b st sf M) : (cI M A.st 2).toInt + sf ≤ 1 + (cI M A.ma 7).toInt + (cI M A.ma 6).toInt := self.2.2.1
theorem MC.al {A : Ad} {NF : Nat} {b st sf : Int} {M : gMem} (self : MC A NF b st sf M) : 0 ≤ (cI M A.ma 11).toInt ∧ (cI M A.ma 11).toInt ≤ 200 := self.2.2.2.1
theorem MC.ta {A : Ad} {NF : Nat} {b st sf : Int} {M : gMem} (self : MC A NF b st sf M) : 0 ≤ (cI M A.ma 12).toInt ∧ (cI M A.ma 12).toInt ≤ (cI M A.ma 11).toInt := self.2.2.2.2.1
theorem MC.fl {A : Ad} {NF : Nat} {b st sf : Int} {M : gMem} (self : MC A NF b st sf M) : (cI M A.ma 6).toInt = b + (cI M A.ma 12).toInt := self.2.2.2.2.2.1
theorem MC.bb {A : Ad} {NF : Nat} {b st sf : Int} {M : gMem} (self : MC A NF b st sf M) : 0 ≤ b ∧ b + 1201 ≤ NF ∧ b ≤ 2000000 := self.2.2.2.2.2.2
/-- the counts' fields -/
def CNT : List (Nat × Nat) := [(8, 6), (8, 7), (8, 11), (8, 12), (9, 2), (9, 3)]
section
variable {cs : Nat → ClassId} {lim dE : Nat × Nat} {A : Ad} {Fs Ts : Nat → Prop} {r1 r2 NF : Nat} {g4 : Nat → Int32} {k4 : Nat} {M M' : gMem} {a t n fu : Nat} {b st sf : Int}
theorem cnt_not {W : List (Nat × Nat)} (hW : W.all (fun w => !CNT.contains w) = true) {w : Nat × Nat} (hw : CNT.contains w = true) : w ∉ W := fun z => by
  have := List.all_eq_true.mp hW w z
  rw [hw] at this
  cases this
theorem MC.ext {W V : List (Nat × Nat)} {al : Bool} (h : MC A NF b st sf M) (L : Lay cs A M) (e : Ext W V al M M') (hW : W.all (fun w => !CNT.contains w) = true) : MC A NF b st sf M' := by
  have o8 := L.ma_0.1
  have o9 := L.st_0.1
  have e6 := e.xcI o8 (cnt_not hW (w := (8, 6)) (by decide))
  have e7 := e.xcI o8 (cnt_not hW (w := (8, 7)) (by decide))
  have e11 := e.xcI o8 (cnt_not hW (w := (8, 11)) (by decide))
  have e12 := e.xcI o8 (cnt_not hW (w := (8, 12)) (by decide))
  have e2 := e.xcI o9 (cnt_not hW (w := (9, 2)) (by decide))
  have e3 := e.xcI o9 (cnt_not hW (w := (9, 3)) (by decide))
  refine ⟨?_, ?_, ?_, ?_, ?_, ?_, h.bb⟩
  · rw [e7]; exact h.tc
  · rw [e7, e3]; exact h.tu
  · rw [e2, e7, e6]; exact h.fu
  · rw [e11]; exact h.al
  · rw [e11, e12]; exact h.ta
  · rw [e6, e12]; exact h.fl
theorem MC.less {st' sf' : Int} (h : MC A NF b st sf M) (h1 : st' ≤ st) (h2 : sf' ≤ sf) : MC A NF b st' sf' M := ⟨h.tc, by have := h.tu; omega, by have := h.fu; omega, h.al, h.ta, h.fl, h.bb⟩
theorem co_field (h : (HS cs lim dE A r1 r2 NF g4 k4) Fs Ts M) (x1 x2 : Int32) : S_Co_field cs lim M A.co x1 x2 := by
  have hq := h.lay.co_1
  obtain ⟨s, -⟩ := ce_at (lim := lim) h.c4 (x1 * 5 + x2)
  unfold S_Co_field
  rw [hq.2]
  simp only [Option.getD_some]
  exact ⟨hq.1, ⟨_, rfl, h.lay.objs (2, A.c4) (by simp [si_1, si_2, sl_1, sl_2, sl_3, ai_1, ai_2, ai_3, ai_4, al_1, al_2, al_3, al_4, OBJS])⟩, s, trivial⟩
theorem co_operation (h : (HS cs lim dE A r1 r2 NF g4 k4) Fs Ts M) (x1 : Int32) : S_Co_operation cs lim M A.co x1 := by
  have hq := h.lay.co_1
  obtain ⟨s, -⟩ := ce_at (lim := lim) h.c4 (x1 * 5)
  unfold S_Co_operation
  rw [hq.2]
  simp only [Option.getD_some]
  exact ⟨hq.1, ⟨_, rfl, h.lay.objs (2, A.c4) (by simp [si_1, si_2, sl_1, sl_2, sl_3, ai_1, ai_2, ai_3, ai_4, al_1, al_2, al_3, al_4, OBJS])⟩, s, trivial⟩
theorem co_case22 (h : (HS cs lim dE A r1 r2 NF g4 k4) Fs Ts M) {x1 : Option Nat} {x2 x3 x4 : Int32} : ∀ (d : Nat) (x5 : Int32) (n : Nat), 9 - x5.toInt.toNat = d → 1 ≤ x5.toInt → x5.toInt ≤ 9 → d < n → S_Co_caseOf_22 cs lim n M A.co x1 x2 x3 x4 x5 := by
  intro d
  induction d with
  | zero =>
    intro x5 n hd h1 h2 hn
    obtain ⟨n, rfl⟩ : ∃ z, n = z + 1 := ⟨n - 1, by omega⟩
    have : 8 < x5 := by ((try (simp only [vp_in, Int32.toNatClampNeg, Int32.lt_iff_toInt_lt, Int32.le_iff_toInt_le, ← Int32.toInt_inj, Int32.toInt_add, Int32.toInt_sub, Int32.toInt_mul, Int32.reduceToInt, i32_neg1, Nat.reducePow, Int.reducePow, ne_eq, ge_iff_le, gt_iff_lt] at *)) <;> (first | omega | ((simp (disch := omega) only [bm32] at *) <;> omega)))
    simp only [S_Co_caseOf_22, if_pos this]
    split <;> trivial
  | succ d ih =>
    intro x5 n hd h1 h2 hn
    obtain ⟨n, rfl⟩ : ∃ z, n = z + 1 := ⟨n - 1, by omega⟩
    have : ¬ 8 < x5 := by ((try (simp only [vp_in, Int32.toNatClampNeg, Int32.lt_iff_toInt_lt, Int32.le_iff_toInt_le, ← Int32.toInt_inj, Int32.toInt_add, Int32.toInt_sub, Int32.toInt_mul, Int32.reduceToInt, i32_neg1, Nat.reducePow, Int.reducePow, ne_eq, ge_iff_le, gt_iff_lt] at *)) <;> (first | omega | ((simp (disch := omega) only [bm32] at *) <;> omega)))
    simp only [S_Co_caseOf_22, if_neg this, mbind_eq]
    split
    · trivial
    · refine ⟨h.lay.co_0.1, co_field h _ _, ?_⟩
      split
      · trivial
      · exact ih (x5 + 1) n (by ((try (simp only [vp_in, Int32.toNatClampNeg, Int32.lt_iff_toInt_lt, Int32.le_iff_toInt_le, ← Int32.toInt_inj, Int32.toInt_add, Int32.toInt_sub, Int32.toInt_mul, Int32.reduceToInt, i32_neg1, Nat.reducePow, Int.reducePow, ne_eq, ge_iff_le, gt_iff_lt] at *)) <;> (first | omega | ((simp (disch := omega) only [bm32] at *) <;> omega)))) (by ((try (simp only [vp_in, Int32.toNatClampNeg, Int32.lt_iff_toInt_lt, Int32.le_iff_toInt_le, ← Int32.toInt_inj, Int32.toInt_add, Int32.toInt_sub, Int32.toInt_mul, Int32.reduceToInt, i32_neg1, Nat.reducePow, Int.reducePow, ne_eq, ge_iff_le, gt_iff_lt] at *)) <;> (first | omega | ((simp (disch := omega) only [bm32] at *) <;> omega)))) (by ((try (simp only [vp_in, Int32.toNatClampNeg, Int32.lt_iff_toInt_lt, Int32.le_iff_toInt_le, ← Int32.toInt_inj, Int32.toInt_add, Int32.toInt_sub, Int32.toInt_mul, Int32.reduceToInt, i32_neg1, Nat.reducePow, Int.reducePow, ne_eq, ge_iff_le, gt_iff_lt] at *)) <;> (first | omega | ((simp (disch := omega) only [bm32] at *) <;> omega)))) (by omega)
theorem co_caseOf (h : (HS cs lim dE A r1 r2 NF g4 k4) Fs Ts M) {r : Option Nat} (hr : ∀ t, r = some t → Ts t) (hn : 10 ≤ n) (x : Int32) : S_Co_caseOf cs lim n M A.co r x := by
  unfold S_Co_caseOf
  cases r with
  | none => simp only [if_true]
  | some t =>
    have hne : ¬ (some t : Option Nat) = none := by simp [si_1, si_2, sl_1, sl_2, sl_3, ai_1, ai_2, ai_3, ai_4, al_1, al_2, al_3, al_4]
    simp only [if_neg hne, mbind_eq]
    exact ⟨⟨t, rfl, (h.th (hr t rfl)).ok⟩, h.lay.co_0.1, co_field h _ _, co_case22 h 8 1 n (by decide) (by decide) (by decide) (by omega)⟩
/-- a frame's step with its counts -/
theorem ma_isFull (h : (HS cs lim dE A r1 r2 NF g4 k4) Fs Ts M) (c : MC A NF b st sf M) (x : Int32) (hx : 0 ≤ x.toInt ∧ x.toInt ≤ 500) : S_Ma_isFull cs lim M A.ma x ∧ (HS cs lim dE A r1 r2 NF g4 k4) Fs Ts (F_Ma_isFull cs M A.ma x).2 ∧ MC A NF b st sf (F_Ma_isFull cs M A.ma x).2 ∧ ((F_Ma_isFull cs M A.ma x).1 = 0 → (cI (F_Ma_isFull cs M A.ma x).2 A.ma 7).toInt + x.toInt ≤ 1000) := by
  have o8 := h.lay.ma_0.1
  have ctc := c.tc
  have e1000 : (1000 : Int32).toInt = 1000 := rfl
  have es : (cI M A.ma 7 + x).toInt = (cI M A.ma 7).toInt + x.toInt := by ((try (simp only [vp_in, Int32.toNatClampNeg, Int32.lt_iff_toInt_lt, Int32.le_iff_toInt_le, ← Int32.toInt_inj, Int32.toInt_add, Int32.toInt_sub, Int32.toInt_mul, Int32.reduceToInt, i32_neg1, Nat.reducePow, Int.reducePow, ne_eq, ge_iff_le, gt_iff_lt] at *)) <;> (first | omega | ((simp (disch := omega) only [bm32] at *) <;> omega)))
  unfold S_Ma_isFull F_Ma_isFull
  by_cases h1 : 1000 < cI M A.ma 7 + x
  · simp only [if_pos h1]
    have h2 := h.putN (ci := 8) (k := 4) (x := 5) o8 (by decide) (by decide)
    have e : Ext [(8, 4)] [] false M (cP 8 M A.ma 4 (.int 5)) := (Ext.rf h.lay.mok).putI 4 o8 (by decide) (by decide)
    exact ⟨⟨o8, o8, trivial⟩, h2, c.ext h.lay e (by decide), fun z => absurd z (by decide)⟩
  · simp only [if_neg h1]
    refine ⟨⟨o8, trivial⟩, h, c, fun _ => ?_⟩
    rcases Int.lt_or_le 1000 ((cI M A.ma 7).toInt + x.toInt) with z | z
    · exact absurd (Int32.lt_iff_toInt_lt.mpr (by rw [es, e1000]; exact z)) h1
    · exact z
theorem ma_isDeep (h : (HS cs lim dE A r1 r2 NF g4 k4) Fs Ts M) (c : MC A NF b st sf M) (x : Int32) : S_Ma_isDeep cs lim M A.ma x ∧ (HS cs lim dE A r1 r2 NF g4 k4) Fs Ts (F_Ma_isDeep cs M A.ma x).2 ∧ MC A NF b st sf (F_Ma_isDeep cs M A.ma x).2 := by
  have o8 := h.lay.ma_0.1
  unfold S_Ma_isDeep F_Ma_isDeep
  split
  · have h2 := h.putN (ci := 8) (k := 4) (x := 6) o8 (by decide) (by decide)
    have e : Ext [(8, 4)] [] false M (cP 8 M A.ma 4 (.int 6)) := (Ext.rf h.lay.mok).putI 4 o8 (by decide) (by decide)
    exact ⟨⟨o8, o8, trivial⟩, h2, c.ext h.lay e (by decide)⟩
  · exact ⟨⟨o8, trivial⟩, h, c⟩
theorem ma_takesFuel (h : (HS cs lim dE A r1 r2 NF g4 k4) Fs Ts M) (c : MC A NF b st sf M) (ha : Fs a) (x : Int32) : S_Ma_takesFuel cs lim M A.ma (some a) x ∧ (HS cs lim dE A r1 r2 NF g4 k4) Fs Ts (F_Ma_takesFuel cs M A.ma (some a) x).2 ∧ MC A NF b st sf (F_Ma_takesFuel cs M A.ma (some a) x).2 ∧ ((F_Ma_takesFuel cs M A.ma (some a) x).1 ≠ 0 → MC A NF b st (sf + 1) (F_Ma_takesFuel cs M A.ma (some a) x).2) := by
  have o8 := h.lay.ma_0.1
  have cta := c.ta
  have cal := c.al
  have cfl := c.fl
  have cbb := c.bb
  unfold S_Ma_takesFuel F_Ma_takesFuel
  simp only [Option.getD_some]
  by_cases h1 : cI M A.ma 12 < cI M A.ma 11
  · simp only [if_pos h1]
    have hlt := Int32.lt_iff_toInt_lt.mp h1
    have h2 := h.putN (ci := 8) (k := 12) (x := cI M A.ma 12 + 1) o8 (by decide) (by decide)
    have o2 := h2.lay.ma_0.1
    have h3 := h2.putN (ci := 8) (k := 6) (x := cI (cP 8 M A.ma 12 (.int (cI M A.ma 12 + 1))) A.ma 6 + 1) o2 (by decide) (by decide)
    have q6 : cI (cP 8 M A.ma 12 (.int (cI M A.ma 12 + 1))) A.ma 6 = cI M A.ma 6 := cI_put_ne (Or.inr (by decide))
    have v6 : cI (cP 8 (cP 8 M A.ma 12 (.int (cI M A.ma 12 + 1))) A.ma 6 (.int (cI (cP 8 M A.ma 12 (.int (cI M A.ma 12 + 1))) A.ma 6 + 1))) A.ma 6 = cI M A.ma 6 + 1 := by rw [cI_put o2 (by decide), q6]
    have v12 : cI (cP 8 (cP 8 M A.ma 12 (.int (cI M A.ma 12 + 1))) A.ma 6 (.int (cI (cP 8 M A.ma 12 (.int (cI M A.ma 12 + 1))) A.ma 6 + 1))) A.ma 12 = cI M A.ma 12 + 1 := by rw [cI_put_ne (Or.inr (by decide)), cI_put o8 (by decide)]
    have vo : ∀ z j, (z ≠ A.ma ∨ (j ≠ 6 ∧ j ≠ 12)) → cI (cP 8 (cP 8 M A.ma 12 (.int (cI M A.ma 12 + 1))) A.ma 6 (.int (cI (cP 8 M A.ma 12 (.int (cI M A.ma 12 + 1))) A.ma 6 + 1))) z j = cI M z j := fun z j hz => by
      rw [cI_put_ne (hz.imp id (fun q => q.1)), cI_put_ne (hz.imp id (fun q => q.2))]
    have hne : A.st ≠ A.ma := fun q => by have := (q ▸ h.lay.st_0.1 : cOk 9 M A.ma).uniq o8; omega
    have i6 : (cI M A.ma 6 + 1).toInt = (cI M A.ma 6).toInt + 1 := by ((try (simp only [vp_in, Int32.toNatClampNeg, Int32.lt_iff_toInt_lt, Int32.le_iff_toInt_le, ← Int32.toInt_inj, Int32.toInt_add, Int32.toInt_sub, Int32.toInt_mul, Int32.reduceToInt, i32_neg1, Nat.reducePow, Int.reducePow, ne_eq, ge_iff_le, gt_iff_lt] at *)) <;> (first | omega | ((simp (disch := omega) only [bm32] at *) <;> omega)))
    have i12 : (cI M A.ma 12 + 1).toInt = (cI M A.ma 12).toInt + 1 := by ((try (simp only [vp_in, Int32.toNatClampNeg, Int32.lt_iff_toInt_lt, Int32.le_iff_toInt_le, ← Int32.toInt_inj, Int32.toInt_add, Int32.toInt_sub, Int32.toInt_mul, Int32.reduceToInt, i32_neg1, Nat.reducePow, Int.reducePow, ne_eq, ge_iff_le, gt_iff_lt] at *)) <;> (first | omega | ((simp (disch := omega) only [bm32] at *) <;> omega)))
    have c3 : MC A NF b st (sf + 1) (cP 8 (cP 8 M A.ma 12 (.int (cI M A.ma 12 + 1))) A.ma 6 (.int (cI (cP 8 M A.ma 12 (.int (cI M A.ma 12 + 1))) A.ma 6 + 1))) := by
      refine ⟨?_, ?_, ?_, ?_, ?_, ?_, cbb⟩
      · rw [vo A.ma 7 (Or.inr (by decide))]; exact c.tc
      · rw [vo A.ma 7 (Or.inr (by decide)), vo A.st 3 (Or.inl hne)]; exact c.tu
      · rw [vo A.ma 7 (Or.inr (by decide)), vo A.st 2 (Or.inl hne), v6, i6]; have := c.fu; omega
      · rw [vo A.ma 11 (Or.inr (by decide))]; exact c.al
      · rw [vo A.ma 11 (Or.inr (by decide)), v12, i12]; omega
      · rw [v6, v12, i6, i12]; omega
    exact ⟨⟨o8, o8, o8, o8, o2, o2, trivial⟩, h3, c3.less (Int.le_refl _) (by omega), fun _ => c3⟩
  · simp only [if_neg h1]
    have h2 := h.putN (ci := 8) (k := 13) (x := 1) o8 (by decide) (by decide)
    have h3 := h2.putN (ci := 10) (k := 2) (x := x) (h2.fr ha).ok (by decide) (by decide)
    have e : Ext [(8, 13)] [] false M (cP 8 M A.ma 13 (.int 1)) := (Ext.rf h.lay.mok).putI 13 o8 (by decide) (by decide)
    have e2 : Ext [(10, 2)] [] false (cP 8 M A.ma 13 (.int 1)) (cP 10 (cP 8 M A.ma 13 (.int 1)) a 2 (.int x)) := (Ext.rf e.ok).putI 2 (h2.fr ha).ok (by decide) (by decide)
    exact ⟨⟨o8, o8, o8, ⟨a, rfl, (h2.fr ha).ok⟩, trivial⟩, h3, (c.ext h.lay e (by decide)).ext h2.lay e2 (by decide), fun z => absurd rfl z⟩
/-- a new frame stands on another -/
theorem ma_enter (h : (HS cs lim dE A r1 r2 NF g4 k4) Fs Ts M) (c : MC A NF b st sf M) (hsf : 1 ≤ sf) {bl hm : Option Nat} (hb : ∀ z, bl = some z → Fs z) (hh : ∀ z, hm = some z → Ts z) (x : Int32) : S_Ma_enter cs lim dE M A.ma bl hm x ∧ ∃ Fs', (∀ z, Fs z → Fs' z) ∧ (HS cs lim dE A r1 r2 NF g4 k4) Fs' Ts (F_Ma_enter cs dE M A.ma bl hm x) ∧ MC A NF b st (sf - 1) (F_Ma_enter cs dE M A.ma bl hm x) ∧ ∃ f, cQ (F_Ma_enter cs dE M A.ma bl hm x) A.ma 10 = some f ∧ Fs' f := by
  have o8 := h.lay.ma_0.1
  have q1 := h.lay.ma_1.2
  have ctc := c.tc
  have cfu := c.fu
  have cfl := c.fl
  have cta := c.ta
  have cal := c.al
  have cbb := c.bb
  unfold S_Ma_enter F_Ma_enter
  rw [q1]
  simp only [Option.getD_some, mbind_eq]
  obtain ⟨s1, f, Fs', e1, e2, e3, h1, u1⟩ := st_takeFrame h (by omega)
  have x1 := x_St_takeFrame cs lim dE M A.st h.lay.mok s1
  have c1 : MC A NF b st (sf - 1) (F_St_takeFrame cs dE M A.st).2 := by
    have v6 := x1.xcI (k := 6) o8 (by decide)
    have v7 := x1.xcI (k := 7) o8 (by decide)
    have v11 := x1.xcI (k := 11) o8 (by decide)
    have v12 := x1.xcI (k := 12) o8 (by decide)
    have v3 := x1.xcI (k := 3) h.lay.st_0.1 (by decide)
    refine ⟨by rw [v7]; exact c.tc, by rw [v7, v3]; exact c.tu, ?_, by rw [v11]; exact c.al, by rw [v11, v12]; exact c.ta, by rw [v6, v12]; exact c.fl, cbb⟩
    rw [v7, v6]
    omega
  generalize F_St_takeFrame cs dE M A.st = w1 at e1 h1 u1 x1 c1 ⊢
  rw [e1]
  simp only [Option.getD_some]
  obtain ⟨s2, h2⟩ := fr_open h1 e2 hh x
  have x2 := x_Fr_open cs lim w1.2 f hm x h1.lay.mok s2
  have c2 := c1.ext h1.lay x2 (by decide)
  generalize F_Fr_open cs w1.2 f hm x = w2 at h2 x2 c2 ⊢
  have h3 := h2.putQ (ci := 10) (k := 4) (r := bl) (h2.fr e2).ok (Or.inr ⟨by simp [si_1, si_2, sl_1, sl_2, sl_3, ai_1, ai_2, ai_3, ai_4, al_1, al_2, al_3, al_4], fun z hz => e3 z (hb z hz)⟩)
  have x3 : Ext [(10, 4)] [] false w2 (cP 10 w2 f 4 (va_rf bl)) := (Ext.rf h2.lay.mok).putQ 4 (h2.fr e2).ok (by decide) (by decide) (by decide)
  have c3 := c2.ext h2.lay x3 (by decide)
  generalize cP 10 w2 f 4 (va_rf bl) = w3 at h3 x3 c3 ⊢
  have h4 := h3.putQ (ci := 8) (k := 10) (r := some f) h3.lay.ma_0.1 (Or.inr ⟨by simp [si_1, si_2, sl_1, sl_2, sl_3, ai_1, ai_2, ai_3, ai_4, al_1, al_2, al_3, al_4], fun z hz => by cases hz; exact e2⟩)
  have x4 : Ext [(8, 10)] [] false w3 (cP 8 w3 A.ma 10 (va_rf (some f))) := (Ext.rf h3.lay.mok).putQ 10 h3.lay.ma_0.1 (by decide) (by decide) (by decide)
  have c4 := c3.ext h3.lay x4 (by decide)
  have t4 : cQ (cP 8 w3 A.ma 10 (va_rf (some f))) A.ma 10 = some f := cQ_put h3.lay.ma_0.1 (by decide)
  generalize cP 8 w3 A.ma 10 (va_rf (some f)) = w4 at h4 x4 c4 t4 ⊢
  have o4 := h4.lay.ma_0.1
  have h5 := h4.putN (ci := 8) (k := 8) (x := cI w4 A.ma 8 + 1) o4 (by decide) (by decide)
  have x5 : Ext [(8, 8)] [] false w4 (cP 8 w4 A.ma 8 (.int (cI w4 A.ma 8 + 1))) := (Ext.rf h4.lay.mok).putI 8 o4 (by decide) (by decide)
  refine ⟨⟨o8, ⟨_, rfl, h.lay.st_0.1⟩, s1, ⟨f, rfl, (h1.fr e2).ok⟩, s2, ⟨f, rfl, (h2.fr e2).ok⟩, h3.lay.ma_0.1, o4, o4, trivial⟩, Fs', e3, h5, c4.ext h4.lay x5 (by decide), f, ?_, e2⟩
  rw [x5.xcQ o4 (by decide)]
  exact t4
/-- a new thing, counted before -/
theorem ma_thing (h : (HS cs lim dE A r1 r2 NF g4 k4) Fs Ts M) (c : MC A NF b st sf M) (hst : 1 ≤ st) : S_St_takeThing cs lim dE M A.st ∧ ∃ Ts', (∀ z, Ts z → Ts' z) ∧ (HS cs lim dE A r1 r2 NF g4 k4) Fs Ts' (F_St_takeThing cs dE M A.st).2 ∧ MC A NF b (st - 1) sf (F_St_takeThing cs dE M A.st).2 := by
  have o8 := h.lay.ma_0.1
  have ctc := c.tc
  have ctu := c.tu
  obtain ⟨s1, Ts', e3, h1, u1, u2⟩ := st_takeThing h (by omega)
  have x1 := x_St_takeThing cs lim dE M A.st h.lay.mok s1
  have v6 := x1.xcI (k := 6) o8 (by decide)
  have v7 := x1.xcI (k := 7) o8 (by decide)
  have v11 := x1.xcI (k := 11) o8 (by decide)
  have v12 := x1.xcI (k := 12) o8 (by decide)
  refine ⟨s1, Ts', e3, h1, by rw [v7]; exact c.tc, by rw [v7, u1]; omega, by rw [v7, v6, u2]; exact c.fu, by rw [v11]; exact c.al, by rw [v11, v12]; exact c.ta, by rw [v6, v12]; exact c.fl, c.bb⟩
/-- the count of things goes up -/
theorem ma_count (h : (HS cs lim dE A r1 r2 NF g4 k4) Fs Ts M) (c : MC A NF b st sf M) {x : Int32} (hx : 0 ≤ x.toInt) (hle : (cI M A.ma 7).toInt + x.toInt ≤ 1000) : (HS cs lim dE A r1 r2 NF g4 k4) Fs Ts (cP 8 M A.ma 7 (.int (cI M A.ma 7 + x))) ∧ MC A NF b (st + x.toInt) (sf + x.toInt) (cP 8 M A.ma 7 (.int (cI M A.ma 7 + x))) := by
  have o8 := h.lay.ma_0.1
  have ctc := c.tc
  have ctu := c.tu
  have cfu := c.fu
  have es : (cI M A.ma 7 + x).toInt = (cI M A.ma 7).toInt + x.toInt := by ((try (simp only [vp_in, Int32.toNatClampNeg, Int32.lt_iff_toInt_lt, Int32.le_iff_toInt_le, ← Int32.toInt_inj, Int32.toInt_add, Int32.toInt_sub, Int32.toInt_mul, Int32.reduceToInt, i32_neg1, Nat.reducePow, Int.reducePow, ne_eq, ge_iff_le, gt_iff_lt] at *)) <;> (first | omega | ((simp (disch := omega) only [bm32] at *) <;> omega)))
  have hne : A.st ≠ A.ma := fun q => by have := (q ▸ h.lay.st_0.1 : cOk 9 M A.ma).uniq o8; omega
  have v7 : cI (cP 8 M A.ma 7 (.int (cI M A.ma 7 + x))) A.ma 7 = cI M A.ma 7 + x := cI_put o8 (by decide)
  have vo : ∀ z j, (z ≠ A.ma ∨ j ≠ 7) → cI (cP 8 M A.ma 7 (.int (cI M A.ma 7 + x))) z j = cI M z j := fun z j hz => cI_put_ne hz
  refine ⟨h.putN (ci := 8) (k := 7) o8 (by decide) (by decide), ?_, ?_, ?_, ?_, ?_, ?_, c.bb⟩
  · rw [v7, es]; omega
  · rw [v7, es, vo A.st 3 (Or.inl hne)]; omega
  · rw [v7, es, vo A.st 2 (Or.inl hne), vo A.ma 6 (Or.inr (by decide))]; omega
  · rw [vo A.ma 11 (Or.inr (by decide))]; exact c.al
  · rw [vo A.ma 11 (Or.inr (by decide)), vo A.ma 12 (Or.inr (by decide))]; exact c.ta
  · rw [vo A.ma 6 (Or.inr (by decide)), vo A.ma 12 (Or.inr (by decide))]; exact c.fl
end
end
