-- pure rows: FB FC FD FE FF
section
/-! pure rows, the class: a field of a frame, a thing, the machine or the store is written -/
section
variable {cs : Nat → ClassId} {dE : Nat × Nat} {A : Ad} {Fs Ts P : Nat → Prop} {nf nt kf kt : Nat} {g4 : Nat → Int32} {k4 : Nat} {M M' : gMem} {a b sz n cap ci k : Nat} {v : Value}
theorem vQ_rf (r : Option Nat) : vQ (some (va_rf r)) = r := by cases r <;> rfl
/-- what a field holds once it is written -/
theorem cI_at {x : Int32} (ho : cOk ci M a) (hk : k < (ckd ci).length) {c j : Nat} : cI (cP ci M a k (.int x)) c j = if c = a ∧ j = k then x else cI M c j := by
  by_cases h : c = a ∧ j = k
  · obtain ⟨rfl, rfl⟩ := h
    rw [if_pos ⟨rfl, rfl⟩, cI_put ho hk]
  · rw [if_neg h]
    exact cI_put_ne (by by_cases q : c = a; exact Or.inr (fun z => h ⟨q, z⟩); exact Or.inl q)
theorem cQ_at {r : Option Nat} (ho : cOk ci M a) (hk : k < (ckd ci).length) {c j : Nat} : cQ (cP ci M a k (va_rf r)) c j = if c = a ∧ j = k then r else cQ M c j := by
  by_cases h : c = a ∧ j = k
  · obtain ⟨rfl, rfl⟩ := h
    rw [if_pos ⟨rfl, rfl⟩, cQ_put ho hk]
  · rw [if_neg h]
    exact cQ_put_ne (by by_cases q : c = a; exact Or.inr (fun z => h ⟨q, z⟩); exact Or.inl q)
theorem HTL.putW (h : HTL cs dE A Fs Ts nf nt kf kt g4 k4 M) (ho : cOk ci M a) (hk : k < (ckd ci).length) (e : Ext [(ci, k)] [] false M (cP ci M a k v)) (hF : FIN.contains (ci, k) = false) (h2 : ((ci, k) : Nat × Nat) ≠ (2, 0)) (h13 : ci ≠ 13)
    (ei : ∀ c j, (c ≠ a ∨ j ≠ k) → cI (cP ci M a k v) c j = cI M c j) (eq : ∀ c j, (c ≠ a ∨ j ≠ k) → cQ (cP ci M a k v) c j = cQ M c j)
    (fr1 : ∀ c, Fs c → c = a → ci = 10 → k = 1 → 10 ≤ (cI (cP ci M a k v) c 1).toInt ∧ (cI (cP ci M a k v) c 1).toInt ≤ 50)
    (fr3 : ∀ c, Fs c → c = a → ci = 10 → k = 3 → ∀ z, cQ (cP ci M a k v) c 3 = some z → Ts z)
    (fr4 : ∀ c, Fs c → c = a → ci = 10 → k = 4 → ∀ z, cQ (cP ci M a k v) c 4 = some z → Fs z)
    (th4 : ∀ c, Ts c → c = a → ci = 11 → k = 4 → ∀ z, cQ (cP ci M a k v) c 4 = some z → Fs z)
    (th5 : ∀ c, Ts c → c = a → ci = 11 → k = 5 → ∀ z, cQ (cP ci M a k v) c 5 = some z → Fs z)
    (tp : A.ma = a → ci = 8 → k = 10 → ∀ z, cQ (cP ci M a k v) A.ma 10 = some z → Fs z)
    (fe : A.st = a → ci = 9 → k = 4 → ∀ z, cQ (cP ci M a k v) A.st 4 = some z → Fs z)
    (f2 : A.st = a → ci = 9 → k = 2 → 0 ≤ (cI (cP ci M a k v) A.st 2).toInt ∧ (cI (cP ci M a k v) A.st 2).toInt ≤ nf)
    (f3 : A.st = a → ci = 9 → k = 3 → 0 ≤ (cI (cP ci M a k v) A.st 3).toInt ∧ (cI (cP ci M a k v) A.st 3).toInt ≤ nt) : HTL cs dE A Fs Ts nf nt kf kt g4 k4 (cP ci M a k v) := by
  have o8 := h.lay.ma_0.1
  have o9 := h.lay.st_0.1
  have is : ∀ {cj c : Nat}, cOk cj M c → c = a → cj = ci := fun hc q => by subst q; exact hc.uniq ho
  have hc2 : ([(ci, k)] : List (Nat × Nat)).contains (2, 0) = false := by
    cases hc : ([(ci, k)] : List (Nat × Nat)).contains (2, 0) with
    | false => rfl
    | true =>
      have := List.contains_iff_mem.mp hc
      exact absurd (List.mem_singleton.mp this).symm h2
  have kF : ∀ w : Nat × Nat, FIN.contains w = true → w ≠ (ci, k) := fun w hw q => by subst q; rw [hw] at hF; cases hF
  refine ⟨h.lay.ext e (by simp only [List.all_cons, List.all_nil, hF]; rfl), h.c4.ext e hc2 (by rfl), fun c hc => ?_, fun c hc => ?_, h.fl.ext e (by simpa [si_1, si_2, sl_1, sl_2, sl_3, ai_1, ai_2, ai_3, ai_4, al_1, al_2, al_3, al_4] using fun z _ => h13 z.symm) (by simpa [si_1, si_2, sl_1, sl_2, sl_3, ai_1, ai_2, ai_3, ai_4, al_1, al_2, al_3, al_4] using fun z _ => h13 z.symm) rfl, h.tl.ext e (by simpa [si_1, si_2, sl_1, sl_2, sl_3, ai_1, ai_2, ai_3, ai_4, al_1, al_2, al_3, al_4] using fun z _ => h13 z.symm) (by simpa [si_1, si_2, sl_1, sl_2, sl_3, ai_1, ai_2, ai_3, ai_4, al_1, al_2, al_3, al_4] using fun z _ => h13 z.symm) rfl, fun f hf => ?_, fun f hf => ?_, ?_, ?_, h.de.1, ?_⟩
  · have o := h.fr c hc
    obtain ⟨b, b1, b2, b3⟩ := o.sl
    refine ⟨e.xcOk o.ok, ⟨b, ?_, (e.aI b2).1, (e.aI b2).2.trans b3⟩, ?_, fun z hz => ?_, fun z hz => ?_⟩
    · rw [eq c 0 ?_]; exact b1
      by_cases q : c = a
      · refine Or.inr (fun z => kF (10, 0) (by decide) ?_)
        rw [is o.ok q, z]
      · exact Or.inl q
    · by_cases q : c = a ∧ k = 1
      · exact fr1 c hc q.1 (is o.ok q.1).symm q.2
      · rw [ei c 1 (by by_cases z : c = a; exact Or.inr (fun y => q ⟨z, y.symm⟩); exact Or.inl z)]; exact o.ht
    · by_cases q : c = a ∧ k = 3
      · exact fr3 c hc q.1 (is o.ok q.1).symm q.2 z hz
      · rw [eq c 3 (by by_cases z : c = a; exact Or.inr (fun y => q ⟨z, y.symm⟩); exact Or.inl z)] at hz; exact o.ha z hz
    · by_cases q : c = a ∧ k = 4
      · exact fr4 c hc q.1 (is o.ok q.1).symm q.2 z hz
      · rw [eq c 4 (by by_cases z : c = a; exact Or.inr (fun y => q ⟨z, y.symm⟩); exact Or.inl z)] at hz; exact o.be z hz
  · have o := h.th c hc
    obtain ⟨b, b1, b2, b3⟩ := o.nm
    refine ⟨e.xcOk o.ok, ⟨b, ?_, (e.aI b2).1, (e.aI b2).2.trans b3⟩, fun z hz => ?_, fun z hz => ?_⟩
    · rw [eq c 0 ?_]; exact b1
      by_cases q : c = a
      · refine Or.inr (fun z => kF (11, 0) (by decide) ?_)
        rw [is o.ok q, z]
      · exact Or.inl q
    · by_cases q : c = a ∧ k = 4
      · exact th4 c hc q.1 (is o.ok q.1).symm q.2 z hz
      · rw [eq c 4 (by by_cases z : c = a; exact Or.inr (fun y => q ⟨z, y.symm⟩); exact Or.inl z)] at hz; exact o.up z hz
    · by_cases q : c = a ∧ k = 5
      · exact th5 c hc q.1 (is o.ok q.1).symm q.2 z hz
      · rw [eq c 5 (by by_cases z : c = a; exact Or.inr (fun y => q ⟨z, y.symm⟩); exact Or.inl z)] at hz; exact o.lo z hz
  · by_cases q : A.ma = a ∧ k = 10
    · exact tp q.1 (is o8 q.1).symm q.2 f hf
    · rw [eq A.ma 10 (by by_cases z : A.ma = a; exact Or.inr (fun y => q ⟨z, y.symm⟩); exact Or.inl z)] at hf; exact h.top f hf
  · by_cases q : A.st = a ∧ k = 4
    · exact fe q.1 (is o9 q.1).symm q.2 f hf
    · rw [eq A.st 4 (by by_cases z : A.st = a; exact Or.inr (fun y => q ⟨z, y.symm⟩); exact Or.inl z)] at hf; exact h.free f hf
  · by_cases q : A.st = a ∧ k = 2
    · exact f2 q.1 (is o9 q.1).symm q.2
    · rw [ei A.st 2 (by by_cases z : A.st = a; exact Or.inr (fun y => q ⟨z, y.symm⟩); exact Or.inl z)]; exact h.fu
  · by_cases q : A.st = a ∧ k = 3
    · exact f3 q.1 (is o9 q.1).symm q.2
    · rw [ei A.st 3 (by by_cases z : A.st = a; exact Or.inr (fun y => q ⟨z, y.symm⟩); exact Or.inl z)]; exact h.tu
  · have hne : dE.1 ≠ a := fun q => by
      obtain ⟨fs, e1, -⟩ := ho
      rw [← q, h.de.2] at e1
      cases e1
    unfold cP
    rw [gup_n hne]
    exact h.de.2
/-- an int field: a frame's height, the store's counts -/
theorem HTL.putI (h : HTL cs dE A Fs Ts nf nt kf kt g4 k4 M) {x : Int32} (ho : cOk ci M a) (hf : (ci = 10 ∧ k = 1 ∧ 10 ≤ x.toInt ∧ x.toInt ≤ 50) ∨ (ci = 9 ∧ k = 2 ∧ 0 ≤ x.toInt ∧ x.toInt ≤ nf) ∨ (ci = 9 ∧ k = 3 ∧ 0 ≤ x.toInt ∧ x.toInt ≤ nt)) : HTL cs dE A Fs Ts nf nt kf kt g4 k4 (cP ci M a k (.int x)) := by
  have hk : k < (ckd ci).length ∧ (ckd ci).getD k 0 ≠ 2 := by rcases hf with ⟨rfl, rfl, -⟩ | ⟨rfl, rfl, -⟩ | ⟨rfl, rfl, -⟩ <;> decide
  have e : Ext [(ci, k)] [] false M (cP ci M a k (.int x)) := (Ext.rf h.lay.mok).putI k ho (by simp [si_1, si_2, sl_1, sl_2, sl_3, ai_1, ai_2, ai_3, ai_4, al_1, al_2, al_3, al_4]) hk.2
  have hv : cI (cP ci M a k (.int x)) a k = x := cI_put ho hk.1
  refine h.putW ho hk.1 e ?_ ?_ ?_ (fun c j hc => cI_put_ne hc) (fun c j hc => cQ_put_ne hc) ?_ ?_ ?_ ?_ ?_ ?_ ?_ ?_ ?_
  · rcases hf with ⟨rfl, rfl, -⟩ | ⟨rfl, rfl, -⟩ | ⟨rfl, rfl, -⟩ <;> decide
  · rcases hf with ⟨rfl, rfl, -⟩ | ⟨rfl, rfl, -⟩ | ⟨rfl, rfl, -⟩ <;> decide
  · rcases hf with ⟨rfl, rfl, -⟩ | ⟨rfl, rfl, -⟩ | ⟨rfl, rfl, -⟩ <;> decide
  · rintro c _ rfl z1 rfl
    rw [hv]
    rcases hf with ⟨-, -, g⟩ | ⟨-, g, -⟩ | ⟨-, g, -⟩
    · exact g
    · cases g
    · cases g
  · rintro c _ rfl rfl rfl; rcases hf with ⟨-, g, -⟩ | ⟨-, g, -⟩ | ⟨g, -⟩ <;> omega
  · rintro c _ rfl rfl rfl; rcases hf with ⟨-, g, -⟩ | ⟨-, g, -⟩ | ⟨g, -⟩ <;> omega
  · rintro c _ rfl rfl rfl; rcases hf with ⟨-, g, -⟩ | ⟨-, g, -⟩ | ⟨g, -⟩ <;> omega
  · rintro c _ rfl rfl rfl; rcases hf with ⟨-, g, -⟩ | ⟨-, g, -⟩ | ⟨g, -⟩ <;> omega
  · rintro rfl rfl rfl; rcases hf with ⟨-, g, -⟩ | ⟨-, g, -⟩ | ⟨g, -⟩ <;> omega
  · rintro rfl rfl rfl; rcases hf with ⟨-, g, -⟩ | ⟨-, g, -⟩ | ⟨g, g', -⟩ <;> omega
  · rintro rfl rfl rfl
    rw [hv]
    rcases hf with ⟨g, -⟩ | ⟨-, -, g⟩ | ⟨-, g, -⟩
    · cases g
    · exact g
    · cases g
  · rintro rfl rfl rfl
    rw [hv]
    rcases hf with ⟨g, -⟩ | ⟨-, g, -⟩ | ⟨-, -, g⟩
    · cases g
    · cases g
    · exact g
/-- a field that holds a frame, or a thing, or nothing -/
theorem HTL.putQ (h : HTL cs dE A Fs Ts nf nt kf kt g4 k4 M) {r : Option Nat} (ho : cOk ci M a) (hf : (ci = 10 ∧ k = 3 ∧ ∀ z, r = some z → Ts z) ∨ (((ci = 10 ∧ k = 4) ∨ (ci = 11 ∧ k = 4) ∨ (ci = 11 ∧ k = 5) ∨ (ci = 8 ∧ k = 10) ∨ (ci = 9 ∧ k = 4)) ∧ ∀ z, r = some z → Fs z)) : HTL cs dE A Fs Ts nf nt kf kt g4 k4 (cP ci M a k (va_rf r)) := by
  have hk : (k < (ckd ci).length ∧ (ckd ci).getD k 0 = 2) ∧ FIN.contains (ci, k) = false ∧ OWN.contains (ci, k) = false ∧ ((ci, k) : Nat × Nat) ≠ (2, 0) ∧ ci ≠ 13 := by rcases hf with ⟨rfl, rfl, -⟩ | ⟨⟨rfl, rfl⟩ | ⟨rfl, rfl⟩ | ⟨rfl, rfl⟩ | ⟨rfl, rfl⟩ | ⟨rfl, rfl⟩, -⟩ <;> decide
  have e : Ext [(ci, k)] [] false M (cP ci M a k (va_rf r)) := (Ext.rf h.lay.mok).putQ k ho (by simp [si_1, si_2, sl_1, sl_2, sl_3, ai_1, ai_2, ai_3, ai_4, al_1, al_2, al_3, al_4]) hk.1.2 hk.2.2.1
  have hv : cQ (cP ci M a k (va_rf r)) a k = r := cQ_put ho hk.1.1
  refine h.putW ho hk.1.1 e hk.2.1 hk.2.2.2.1 hk.2.2.2.2 (fun c j hc => cI_put_ne hc) (fun c j hc => cQ_put_ne hc) ?_ ?_ ?_ ?_ ?_ ?_ ?_ ?_ ?_
  · rintro c _ rfl rfl rfl; omega
  · rintro c _ rfl rfl rfl z hz
    rw [hv] at hz
    rcases hf with ⟨-, -, g⟩ | ⟨g, -⟩
    · exact g z hz
    · omega
  · rintro c _ rfl rfl rfl z hz
    rw [hv] at hz
    rcases hf with ⟨-, g, -⟩ | ⟨-, g⟩
    · omega
    · exact g z hz
  · rintro c _ rfl rfl rfl z hz
    rw [hv] at hz
    rcases hf with ⟨-, g, -⟩ | ⟨-, g⟩
    · omega
    · exact g z hz
  · rintro c _ rfl rfl rfl z hz
    rw [hv] at hz
    rcases hf with ⟨-, g, -⟩ | ⟨-, g⟩
    · omega
    · exact g z hz
  · rintro rfl rfl rfl z hz
    rw [hv] at hz
    rcases hf with ⟨-, g, -⟩ | ⟨-, g⟩
    · omega
    · exact g z hz
  · rintro rfl rfl rfl z hz
    rw [hv] at hz
    rcases hf with ⟨-, g, -⟩ | ⟨-, g⟩
    · omega
    · exact g z hz
  · rintro rfl rfl rfl; omega
  · rintro rfl rfl rfl; omega
end
end
section
/-! pure rows, the class: a list grows -/
theorem half32 (x : Int32) : (x >>> (1 &&& 31 : Int32)).toInt = x.toInt / 2 := by
  have : (1 &&& 31 : Int32) = 1 := by decide
  rw [this]
  show (x.toBitVec.sshiftRight' ((1 : Int32).toBitVec.smod 32)).toInt = _
  have h : (1 : Int32).toBitVec.smod 32 = 1#32 := by decide
  rw [h]
  show (x.toBitVec.sshiftRight 1).toInt = _
  rw [BitVec.toInt_sshiftRight]
  simp [si_1, si_2, sl_1, sl_2, sl_3, ai_1, ai_2, ai_3, ai_4, al_1, al_2, al_3, al_4, Int.shiftRight_eq_div_pow]
theorem gr_le {n : Nat} (h : n ≤ 24) : 10 ≤ gr n ∧ gr n ≤ 160065 := by
  have d : ∀ n, n ≤ 24 → 10 ≤ gr n ∧ gr n ≤ 160065 := by decide
  exact d n h
/-- what adding leaves -/
def Ad1 (cs : Nat → ClassId) (dE : Nat × Nat) (M M' : gMem) (a : Nat) (P : Nat → Prop) (sz n n' : Nat) : Prop := (LiI cs dE M' a P (sz + 1) n') ∧ ((n' = n ∧ M'.2 = M.2) ∨ (n' = n + 1 ∧ M'.2 = (M.2.1 + 1, M.2.2 + gr n) ∧ (n = 0 ∨ ∃ m, n = m + 1 ∧ sz = gr m))) ∧ (∀ c, c ≠ a → cQ M a 0 ≠ some c → c < M.2.1 → M'.1 c = M.1 c)
theorem Ad1.li {cs : Nat → ClassId} {dE : Nat × Nat} {M M' : gMem} {a : Nat} {P : Nat → Prop} {sz n n' : Nat} (self : Ad1 cs dE M M' a P sz n n') : LiI cs dE M' a P (sz + 1) n' := self.1
theorem Ad1.siz {cs : Nat → ClassId} {dE : Nat × Nat} {M M' : gMem} {a : Nat} {P : Nat → Prop} {sz n n' : Nat} (self : Ad1 cs dE M M' a P sz n n') : (n' = n ∧ M'.2 = M.2) ∨ (n' = n + 1 ∧ M'.2 = (M.2.1 + 1, M.2.2 + gr n) ∧ (n = 0 ∨ ∃ m, n = m + 1 ∧ sz = gr m)) := self.2.1
theorem Ad1.fr {cs : Nat → ClassId} {dE : Nat × Nat} {M M' : gMem} {a : Nat} {P : Nat → Prop} {sz n n' : Nat} (self : Ad1 cs dE M M' a P sz n n') : ∀ c, c ≠ a → cQ M a 0 ≠ some c → c < M.2.1 → M'.1 c = M.1 c := self.2.2
section
variable {cs : Nat → ClassId} {lim dE : Nat × Nat} {P : Nat → Prop} {M M' : gMem} {a b y sz n : Nat}
theorem al_get (h : LiI cs dE M a P sz n) {x : Int32} {i : Nat} (hx : x.toInt = i) (hi : i < sz) (hb : sz ≤ 106710) : S_AL_get cs lim dE M a x ∧ ∃ y, F_AL_get cs dE M a x = some y ∧ P y := by
  have hs := h.siz
  rcases h.ref with ⟨-, g, -⟩ | ⟨n', b, g1, g2, g3⟩
  · omega
  have hc : x.toNatClampNeg = i := by ((try (simp only [vp_in, Int32.toNatClampNeg, Int32.lt_iff_toInt_lt, Int32.le_iff_toInt_le, ← Int32.toInt_inj, Int32.toInt_add, Int32.toInt_sub, Int32.toInt_mul, Int32.reduceToInt, i32_neg1, Nat.reducePow, Int.reducePow, ne_eq, ge_iff_le, gt_iff_lt] at *)) <;> (first | omega | ((simp (disch := omega) only [bm32] at *) <;> omega)))
  have n0 : ¬ x < 0 := by ((try (simp only [vp_in, Int32.toNatClampNeg, Int32.lt_iff_toInt_lt, Int32.le_iff_toInt_le, ← Int32.toInt_inj, Int32.toInt_add, Int32.toInt_sub, Int32.toInt_mul, Int32.reduceToInt, i32_neg1, Nat.reducePow, Int.reducePow, ne_eq, ge_iff_le, gt_iff_lt] at *)) <;> (first | omega | ((simp (disch := omega) only [bm32] at *) <;> omega)))
  have n1 : x < cI M a 1 := by ((try (simp only [vp_in, Int32.toNatClampNeg, Int32.lt_iff_toInt_lt, Int32.le_iff_toInt_le, ← Int32.toInt_inj, Int32.toInt_add, Int32.toInt_sub, Int32.toInt_mul, Int32.reduceToInt, i32_neg1, Nat.reducePow, Int.reducePow, ne_eq, ge_iff_le, gt_iff_lt] at *)) <;> (first | omega | ((simp (disch := omega) only [bm32] at *) <;> omega)))
  have sc : S_Os_checkIndex cs lim M x (cI M a 1) := by
    unfold S_Os_checkIndex S_Preconditions_checkIndex
    rw [if_neg n0, if_pos n1]
    exact ⟨trivial, trivial⟩
  have hle := g3.le
  have hlen := g3.len
  unfold S_AL_get F_AL_get
  simp only [mbind_eq]
  unfold S_AL_elementData F_AL_elementData
  rw [g2]
  simp only [Option.getD_some, hc]
  obtain ⟨y, y1, y2⟩ := g3.el i hi
  exact ⟨⟨h.ok, sc, h.ok, ⟨h.ok, ⟨trivial, g3.ok⟩, by rw [hlen]; ((try (simp only [vp_in, Int32.toNatClampNeg, Int32.lt_iff_toInt_lt, Int32.le_iff_toInt_le, ← Int32.toInt_inj, Int32.toInt_add, Int32.toInt_sub, Int32.toInt_mul, Int32.reduceToInt, i32_neg1, Nat.reducePow, Int.reducePow, ne_eq, ge_iff_le, gt_iff_lt] at *)) <;> (first | omega | ((simp (disch := omega) only [bm32] at *) <;> omega))), trivial⟩, trivial⟩, y, y1, y2⟩
/-- the last two writes -/
theorem al_fin {M2 : gMem} {b2 cap : Nat} {x3 : Int32} (hM : MOk M2) (ho : cOk 13 M2 a) (hq : cQ M2 a 0 = some b2) (A2 : ArI cs M2 a b2 P sz cap) (hlt : sz < cap) (hx : x3.toInt = sz) (hb : sz ≤ 106710) (hy : P y) :
    cOk 13 (aPq (cs 5) M2 b2 x3.toNatClampNeg (some y)) a ∧ LiI cs dE (cP 13 (aPq (cs 5) M2 b2 x3.toNatClampNeg (some y)) a 1 (.int (x3 + 1))) a P (sz + 1) n ∨ ¬ ∃ n', n = n' + 1 ∧ gr n' = cap := by
  by_cases hn : ∃ n', n = n' + 1 ∧ gr n' = cap
  rotate_left
  · exact Or.inr hn
  left
  obtain ⟨n', rfl, hg⟩ := hn
  have hc : x3.toNatClampNeg = sz := by ((try (simp only [vp_in, Int32.toNatClampNeg, Int32.lt_iff_toInt_lt, Int32.le_iff_toInt_le, ← Int32.toInt_inj, Int32.toInt_add, Int32.toInt_sub, Int32.toInt_mul, Int32.reduceToInt, i32_neg1, Nat.reducePow, Int.reducePow, ne_eq, ge_iff_le, gt_iff_lt] at *)) <;> (first | omega | ((simp (disch := omega) only [bm32] at *) <;> omega)))
  rw [hc]
  have e1 : Ext [] [(13, 0)] false M2 (aPq (cs 5) M2 b2 sz (some y)) := by
    unfold aPq
    refine Ext.arrQ hM (Ext.rf hM) A2.ok (Or.inr (fun z => ?_))
    exact z a 13 0 (by decide) (by decide) ho hq
  have hb2 : (aPq (cs 5) M2 b2 sz (some y)).1 b2 = some (1, .inl (cs 5, aL M2 b2, .inr (.inr (.inr (.inr (va_up (aQ M2 b2) sz (some y))))))) := by unfold aPq; exact gup_s
  have o1 : cOk 13 (aPq (cs 5) M2 b2 sz (some y)) a := e1.xcOk ho
  have q1 : cQ (aPq (cs 5) M2 b2 sz (some y)) a 0 = some b2 := by rw [e1.xcQ ho (by simp [si_1, si_2, sl_1, sl_2, sl_3, ai_1, ai_2, ai_3, ai_4, al_1, al_2, al_3, al_4])]; exact hq
  have v1 := (aQ_of hb2).2
  have l1 := (aQ_of hb2).1
  have k1 : aQk (cs 5) (aPq (cs 5) M2 b2 sz (some y)) b2 := ⟨_, _, hb2⟩
  have s1 : Sole (aPq (cs 5) M2 b2 sz (some y)) 13 0 a b2 := A2.sole.ext e1 A2.lt
  have t1 : b2 < (aPq (cs 5) M2 b2 sz (some y)).2.1 := A2.lt
  generalize aPq (cs 5) M2 b2 sz (some y) = M3 at e1 hb2 o1 q1 v1 l1 k1 s1 t1 ⊢
  refine ⟨o1, ?_⟩
  have e2 : Ext [(13, 1)] [] false M3 (cP 13 M3 a 1 (.int (x3 + 1))) := (Ext.rf e1.ok).putI 1 o1 (by decide) (by decide)
  have q2 := e2.xaQ k1 (s1.notV (V := []) (by decide))
  refine ⟨e2.xcOk o1, ?_, Or.inr ⟨n', b2, rfl, ?_, (e2.aR k1).1, ?_, ?_, s1.ext e2 t1, ?_, fun i hi => ?_, fun i hi => ?_⟩⟩
  · rw [cI_put o1 (by decide)]
    ((try (simp only [vp_in, Int32.toNatClampNeg, Int32.lt_iff_toInt_lt, Int32.le_iff_toInt_le, ← Int32.toInt_inj, Int32.toInt_add, Int32.toInt_sub, Int32.toInt_mul, Int32.reduceToInt, i32_neg1, Nat.reducePow, Int.reducePow, ne_eq, ge_iff_le, gt_iff_lt] at *)) <;> (first | omega | ((simp (disch := omega) only [bm32] at *) <;> omega)))
  · rw [e2.xcQ o1 (by decide)]; exact q1
  · rw [(e2.aR k1).2, l1, A2.len, hg]
  · rw [hg]; omega
  · exact t1
  · rw [q2, v1]
    unfold va_up
    by_cases z : i = sz
    · rw [if_pos z]; exact ⟨y, rfl, hy⟩
    · rw [if_neg z]; exact A2.el i (by omega)
  · rw [q2, v1]
    unfold va_up
    rw [if_neg (by omega)]
    exact A2.no i (by omega)
end
end
section
/-! pure rows, the class: something is added to a list -/
theorem own13 {k : Nat} (h : (13, k) ∈ OWN) : k = 0 := by
  have d : ∀ w ∈ OWN, w.1 = 13 → w.2 = 0 := by decide
  exact d _ h rfl
section
variable {cs : Nat → ClassId} {lim dE : Nat × Nat} {P : Nat → Prop} {M M' : gMem} {a b y sz n : Nat}
/-- a new array takes the old one's place -/
theorem al_new (hM : MOk M) (bn : OwnB M) (ho : cOk 13 M a) {f : Nat → Option Nat} {cap : Nat} (hle : sz ≤ cap) (el : ∀ i, i < sz → ∃ y, f i = some y ∧ P y) (no : ∀ i, sz ≤ i → f i = none) {M1 : gMem} (h1 : M1 = gup (gnw M (1, .inl (cs 5, cap, .inr (.inr (.inr (.inr (fun _ => none)))))) cap) M.2.1 (1, .inl (cs 5, cap, .inr (.inr (.inr (.inr f)))))) :
    cOk 13 M1 a ∧ cOk 13 (cP 13 M1 a 0 (va_rf (some M.2.1))) a ∧ cQ (cP 13 M1 a 0 (va_rf (some M.2.1))) a 0 = some M.2.1 ∧ ArI cs (cP 13 M1 a 0 (va_rf (some M.2.1))) a M.2.1 P sz cap ∧ (cP 13 M1 a 0 (va_rf (some M.2.1))).2 = (M.2.1 + 1, M.2.2 + cap) ∧ (∀ c, c ≠ a → c < M.2.1 → (cP 13 M1 a 0 (va_rf (some M.2.1))).1 c = M.1 c) ∧ MOk (cP 13 M1 a 0 (va_rf (some M.2.1))) := by
  have ha : a < M.2.1 := ho.lt hM
  have m1 : ∀ c, c ≠ M.2.1 → M1.1 c = M.1 c := fun c hc => by rw [h1, gup_n hc, gnw_n hc]
  have m2 : M1.1 M.2.1 = some (1, .inl (cs 5, cap, .inr (.inr (.inr (.inr f))))) := by rw [h1, gup_s]
  have s1 : M1.2 = (M.2.1 + 1, M.2.2 + cap) := by rw [h1]; rfl
  have o1 : cOk 13 M1 a := (cOk_cong (m1 a (by omega))).mpr ho
  have o2 : cOk 13 (cP 13 M1 a 0 (va_rf (some M.2.1))) a := cOk_put (fun _ => ⟨_, rfl⟩) (fun z => (z (by decide)).elim) o1 o1
  have q2 : cQ (cP 13 M1 a 0 (va_rf (some M.2.1))) a 0 = some M.2.1 := cQ_put o1 (by decide)
  have n2 : ∀ c, c ≠ a → (cP 13 M1 a 0 (va_rf (some M.2.1))).1 c = M1.1 c := fun c hc => by unfold cP; exact gup_n hc
  have b2 : (cP 13 M1 a 0 (va_rf (some M.2.1))).1 M.2.1 = some (1, .inl (cs 5, cap, .inr (.inr (.inr (.inr f))))) := by rw [n2 _ (by omega), m2]
  refine ⟨o1, o2, q2, ⟨⟨_, _, b2⟩, (aQ_of b2).1, hle, ?_, ?_, by rw [(aQ_of b2).2]; exact el, by rw [(aQ_of b2).2]; exact no⟩, s1, fun c hc hl => by rw [n2 c hc, m1 c (by omega)], ?_⟩
  · intro a' ci' k' hk ho' hq'
    by_cases q : a' = a
    · subst q
      have := ho'.uniq o2
      subst this
      exact ⟨rfl, own13 hk, rfl⟩
    · exfalso
      have e := n2 a' q
      by_cases z : a' = M.2.1
      · subst z
        obtain ⟨fs, e1, -⟩ := ho'
        rw [b2] at e1
        cases e1
      · have o3 : cOk ci' M a' := (cOk_cong (e.trans (m1 a' z))).mp ho'
        have q3 : cQ M a' k' = some M.2.1 := by rw [← cQ_cong (e.trans (m1 a' z))]; exact hq'
        have := bn a' M.2.1 ci' k' hk o3 q3
        omega
  · show M.2.1 < M1.2.1
    rw [s1]
    exact Nat.lt_succ_self _
  · intro c hc
    have hc' : M1.2.1 ≤ c := hc
    rw [s1] at hc'
    have hc2 : M.2.1 + 1 ≤ c := hc'
    rw [n2 c (by omega), m1 c (by omega)]
    exact hM c (by omega)
/-- a full list grows -/
theorem al_grow (hM : MOk M) (bn : OwnB M) (h : LiI cs dE M a P sz n) (de : dE.1 < M.2.1 ∧ M.1 dE.1 = none) (hP : ∀ z, P z → cOk 10 M z ∨ cOk 11 M z) (hn : n ≤ 24) (hb : sz ≤ 106710) (hl1 : M.2.1 + 1 ≤ lim.1) (hl2 : M.2.2 + gr n ≤ lim.2) (full : n = 0 ∨ ∃ m, n = m + 1 ∧ sz = gr m) {x : Int32} (hx : x.toInt = (sz + 1 : Nat)) :
    S_AL_grow2 cs lim dE M a x ∧ (F_AL_grow2 cs dE M a x).1 = some M.2.1 ∧ cOk 13 (F_AL_grow2 cs dE M a x).2 a ∧ cQ (F_AL_grow2 cs dE M a x).2 a 0 = some M.2.1 ∧ ArI cs (F_AL_grow2 cs dE M a x).2 a M.2.1 P sz (gr n) ∧ (F_AL_grow2 cs dE M a x).2.2 = (M.2.1 + 1, M.2.2 + gr n) ∧ (∀ c, c ≠ a → c < M.2.1 → (F_AL_grow2 cs dE M a x).2.1 c = M.1 c) ∧ MOk (F_AL_grow2 cs dE M a x).2 := by
  have ho := h.ok
  obtain ⟨gl, gh⟩ := gr_le hn
  rcases h.ref with ⟨rfl, rfl, hq⟩ | ⟨n', b, rfl, hq, A1⟩
  · have hL : aL M dE.1 = 0 := by unfold aL; rw [de.2]
    have z0 : ¬ (0 : Int32) < nI 0 := by decide
    have hw : (if (10 : Int32) < x then x else 10) = 10 := by rw [if_neg]; ((try (simp only [vp_in, Int32.toNatClampNeg, Int32.lt_iff_toInt_lt, Int32.le_iff_toInt_le, ← Int32.toInt_inj, Int32.toInt_add, Int32.toInt_sub, Int32.toInt_mul, Int32.reduceToInt, i32_neg1, Nat.reducePow, Int.reducePow, ne_eq, ge_iff_le, gt_iff_lt] at *)) <;> (first | omega | ((simp (disch := omega) only [bm32] at *) <;> omega)))
    unfold S_AL_grow2 F_AL_grow2
    rw [hq]
    simp only [Option.getD_some, hL, if_neg z0, if_true, mbind_eq, hw]
    have h10 : (10 : Int32).toNatClampNeg = 10 := by decide
    rw [h10]
    have g0 : gr 0 = 10 := rfl
    have e : gnw M (1, .inl (cs 5, 10, .inr (.inr (.inr (.inr (fun _ => none)))))) 10 = gup (gnw M (1, .inl (cs 5, 10, .inr (.inr (.inr (.inr (fun _ => none)))))) 10) M.2.1 (1, .inl (cs 5, 10, .inr (.inr (.inr (.inr (fun _ => none)))))) := by
      unfold gup gnw
      simp only [Prod.mk.injEq, and_self, and_true]
      funext c
      split <;> simp_all
    obtain ⟨p1, p2, p3, p4, p5, p6, p7⟩ := al_new (cs := cs) (P := P) (sz := 0) (f := fun _ => none) (cap := 10) hM bn ho (Nat.zero_le _) (fun i hi => by omega) (fun _ _ => rfl) e
    refine ⟨⟨ho, ⟨trivial, Or.inr ⟨rfl, de.2⟩⟩, ho, ⟨⟨by decide, by decide⟩, hl1, by rw [g0] at hl2; exact hl2⟩, p1, trivial⟩, trivial, p2, p3, p4, p5, p6, p7⟩
  · obtain ⟨gl', gh'⟩ := gr_le (n := n') (by omega)
    have hsz : sz = gr n' := by
      rcases full with z | ⟨m, z1, z2⟩
      · omega
      · have : m = n' := by omega
        rw [z2, this]
    have hL := A1.len
    have hi : (nI (gr n')).toInt = (gr n' : Nat) := nI_toI (by omega)
    have zp : (0 : Int32) < nI (gr n') := by ((try (simp only [vp_in, Int32.toNatClampNeg, Int32.lt_iff_toInt_lt, Int32.le_iff_toInt_le, ← Int32.toInt_inj, Int32.toInt_add, Int32.toInt_sub, Int32.toInt_mul, Int32.reduceToInt, i32_neg1, Nat.reducePow, Int.reducePow, ne_eq, ge_iff_le, gt_iff_lt] at *)) <;> (first | omega | ((simp (disch := omega) only [bm32] at *) <;> omega)))
    have hh := half32 (nI (gr n'))
    rw [hi] at hh
    generalize hsh : nI (gr n') >>> (1 &&& 31) = sh at hh
    have hlt : x - nI (gr n') < sh := by
      have : (x - nI (gr n')).toInt = 1 := by clear hsh; ((try (simp only [vp_in, Int32.toNatClampNeg, Int32.lt_iff_toInt_lt, Int32.le_iff_toInt_le, ← Int32.toInt_inj, Int32.toInt_add, Int32.toInt_sub, Int32.toInt_mul, Int32.reduceToInt, i32_neg1, Nat.reducePow, Int.reducePow, ne_eq, ge_iff_le, gt_iff_lt] at *)) <;> (first | omega | ((simp (disch := omega) only [bm32] at *) <;> omega)))
      rw [Int32.lt_iff_toInt_lt, this, hh]
      omega
    have gn : gr (n' + 1) = gr n' + gr n' / 2 := rfl
    have hw5 : (nI (gr n') + sh).toInt = (gr (n' + 1) : Nat) := by
      rw [gn]
      clear hsh hlt
      have : (gr n' : Int) / 2 = ((gr n' / 2 : Nat) : Int) := by omega
      rw [this] at hh
      ((try (simp only [vp_in, Int32.toNatClampNeg, Int32.lt_iff_toInt_lt, Int32.le_iff_toInt_le, ← Int32.toInt_inj, Int32.toInt_add, Int32.toInt_sub, Int32.toInt_mul, Int32.reduceToInt, i32_neg1, Nat.reducePow, Int.reducePow, ne_eq, ge_iff_le, gt_iff_lt] at *)) <;> (first | omega | ((simp (disch := omega) only [bm32] at *) <;> omega)))
    have np : ¬ nI (gr n') + sh ≤ 0 := by rw [Int32.le_iff_toInt_le, hw5]; show ¬ ((_ : Int) ≤ 0); omega
    have nb : ¬ 2147483639 < nI (gr n') + sh := by rw [Int32.lt_iff_toInt_lt, hw5]; show ¬ ((2147483639 : Int) < _); omega
    have fN : F_ArraysSupport_newLength cs M (nI (gr n')) (x - nI (gr n')) sh = nI (gr n') + sh := by
      unfold F_ArraysSupport_newLength
      simp only [mbind_eq, if_pos hlt, if_neg np, if_neg nb]
    have sN : S_ArraysSupport_newLength cs lim M (nI (gr n')) (x - nI (gr n')) sh := by
      unfold S_ArraysSupport_newLength
      simp only [mbind_eq, if_pos hlt, if_neg np, if_neg nb]
    have hcl : (nI (gr n') + sh).toNatClampNeg = gr (n' + 1) := by
      show (nI (gr n') + sh).toInt.toNat = _
      rw [hw5]; omega
    have hbne : b ≠ M.2.1 := by have := A1.lt; omega
    generalize nI (gr n') + sh = w5 at hw5 np nb fN hcl
    unfold S_AL_grow2 F_AL_grow2
    rw [hq]
    simp only [Option.getD_some, hL, if_pos zp, mbind_eq, hsh, fN]
    have hb3 : (gnw M (1, .inl (cs 5, gr (n' + 1), .inr (.inr (.inr (.inr (fun _ => none)))))) (gr (n' + 1))).1 b = M.1 b := gnw_n hbne
    have lb : aL (gnw M (1, .inl (cs 5, gr (n' + 1), .inr (.inr (.inr (.inr (fun _ => none)))))) (gr (n' + 1))) b = gr n' := by rw [aL_cong hb3]; exact hL
    have ln : aL (gnw M (1, .inl (cs 5, gr (n' + 1), .inr (.inr (.inr (.inr (fun _ => none)))))) (gr (n' + 1))) M.2.1 = gr (n' + 1) := (aQ_of gnw_s).1
    have an : aQ (gnw M (1, .inl (cs 5, gr (n' + 1), .inr (.inr (.inr (.inr (fun _ => none)))))) (gr (n' + 1))) M.2.1 = fun _ => none := (aQ_of gnw_s).2
    have ab : aQ (gnw M (1, .inl (cs 5, gr (n' + 1), .inr (.inr (.inr (.inr (fun _ => none)))))) (gr (n' + 1))) b = aQ M b := aQ_cong hb3
    have kb : aQk (cs 5) (gnw M (1, .inl (cs 5, gr (n' + 1), .inr (.inr (.inr (.inr (fun _ => none)))))) (gr (n' + 1))) b := by obtain ⟨z1, z2, z3⟩ := A1.ok; exact ⟨z1, z2, by rw [hb3]; exact z3⟩
    have kn : aQk (cs 5) (gnw M (1, .inl (cs 5, gr (n' + 1), .inr (.inr (.inr (.inr (fun _ => none)))))) (gr (n' + 1))) M.2.1 := ⟨_, _, gnw_s⟩
    have mn : ¬ w5 < nI (gr n') := by rw [Int32.lt_iff_toInt_lt, hw5, hi]; omega
    have hmn : (if w5 < nI (gr n') then w5 else nI (gr n')) = nI (gr n') := if_neg mn
    have hcl2 : (nI (gr n')).toNatClampNeg = gr n' := by show (nI (gr n')).toInt.toNat = _; rw [hi]; omega
    have fC : F_Ar_copyOf2 cs dE M (some b) w5 = (some M.2.1, aCq (cs 5) (gnw M (1, .inl (cs 5, gr (n' + 1), .inr (.inr (.inr (.inr (fun _ => none)))))) (gr (n' + 1))) b M.2.1 0 0 (gr n')) := by
      unfold F_Ar_copyOf2 F_Ar_copyOf3
      simp only [if_true, mbind_eq, Option.getD_some, hcl, lb, hmn, hcl2]
      rfl
    have el : oEl (gnw M (1, .inl (cs 5, gr (n' + 1), .inr (.inr (.inr (.inr (fun _ => none)))))) (gr (n' + 1))) b := by
      intro i z hz
      rw [ab] at hz
      have hp : P z := by
        by_cases hi2 : i < sz
        · obtain ⟨z', z1, z2⟩ := A1.el i hi2
          rw [hz] at z1
          cases z1
          exact z2
        · rw [A1.no i (by omega)] at hz
          cases hz
      have ne : ∀ {ci : Nat}, cOk ci M z → z ≠ M.2.1 := fun hc => by have := hc.lt hM; omega
      rcases hP z hp with g | g
      · exact Or.inl ((cOk_cong (gnw_n (ne g))).mpr g)
      · exact Or.inr ((cOk_cong (gnw_n (ne g))).mpr g)
    have sC : S_Ar_copyOf2 cs lim dE M (some b) w5 := by
      unfold S_Ar_copyOf2 S_Ar_copyOf3
      simp only [if_true, mbind_eq, Option.getD_some, hcl, lb, ln, hmn, hcl2]
      refine ⟨⟨trivial, A1.ok⟩, ⟨⟨⟨by rw [Int32.lt_iff_toInt_lt, hw5]; show ¬ ((_ : Int) < 0); omega, by omega⟩, hl1, hl2⟩, ⟨trivial, Or.inl kb⟩, ⟨trivial, kb⟩, kn, el, ⟨⟨by decide, by decide, by rw [Int32.lt_iff_toInt_lt, hi]; show ¬ ((_ : Int) < 0); omega⟩, by show (0 : Int32).toNatClampNeg + gr n' ≤ gr n'; simp [si_1, si_2, sl_1, sl_2, sl_3, ai_1, ai_2, ai_3, ai_4, al_1, al_2, al_3, al_4], ?_⟩, trivial⟩, trivial⟩
      show (0 : Int32).toNatClampNeg + gr n' ≤ gr (n' + 1)
      have : (0 : Int32).toNatClampNeg = 0 := by decide
      rw [this, gn]
      omega
    simp only [fC]
    have e : aCq (cs 5) (gnw M (1, .inl (cs 5, gr (n' + 1), .inr (.inr (.inr (.inr (fun _ => none)))))) (gr (n' + 1))) b M.2.1 0 0 (gr n') = gup (gnw M (1, .inl (cs 5, gr (n' + 1), .inr (.inr (.inr (.inr (fun _ => none)))))) (gr (n' + 1))) M.2.1 (1, .inl (cs 5, gr (n' + 1), .inr (.inr (.inr (.inr (va_cpy (aQ M b) (fun _ => none) 0 0 (gr n'))))))) := by
      unfold aCq
      rw [ln, an, ab]
    obtain ⟨p1, p2, p3, p4, p5, p6, p7⟩ := al_new (cs := cs) (P := P) (sz := sz) (f := va_cpy (aQ M b) (fun _ => none) 0 0 (gr n')) (cap := gr (n' + 1)) hM bn ho (by omega) (fun i hi2 => by
      unfold va_cpy
      rw [if_pos ⟨Nat.zero_le _, by omega⟩]
      have := A1.el i hi2
      simpa [si_1, si_2, sl_1, sl_2, sl_3, ai_1, ai_2, ai_3, ai_4, al_1, al_2, al_3, al_4] using this) (fun i hi2 => by
      unfold va_cpy
      rw [if_neg (by omega)]) e
    exact ⟨⟨ho, ⟨trivial, Or.inl A1.ok⟩, sN, ho, sC, p1, trivial⟩, trivial, p2, p3, p4, p5, p6, p7⟩
theorem al_add (hM : MOk M) (bn : OwnB M) (h : LiI cs dE M a P sz n) (de : dE.1 < M.2.1 ∧ M.1 dE.1 = none) (hP : ∀ z, P z → cOk 10 M z ∨ cOk 11 M z) (hy : P y) (hn : n ≤ 24) (hb : sz ≤ 106709) (hl1 : M.2.1 + 1 ≤ lim.1) (hl2 : (n = 0 ∨ ∃ m, n = m + 1 ∧ sz = gr m) → M.2.2 + gr n ≤ lim.2) :
    S_AL_add cs lim dE M a (some y) ∧ ∃ n', Ad1 cs dE M (F_AL_add cs dE M a (some y)).2 a P sz n n' := by
  have ho := h.ok
  have e0 : Ext [(13, 2)] [] false M (cP 13 M a 2 (.int (cI M a 2 + 1))) := (Ext.rf hM).putI 2 ho (by decide) (by decide)
  have n0 : ∀ c, c ≠ a → (cP 13 M a 2 (.int (cI M a 2 + 1))).1 c = M.1 c := fun c hc => by unfold cP; exact gup_n hc
  have s0 : (cP 13 M a 2 (.int (cI M a 2 + 1))).2 = M.2 := rfl
  have hane : dE.1 ≠ a := fun q => by
    obtain ⟨fs, e1, -⟩ := ho
    rw [← q, de.2] at e1
    cases e1
  unfold S_AL_add F_AL_add
  simp only [mbind_eq]
  have h1 : LiI cs dE (cP 13 M a 2 (.int (cI M a 2 + 1))) a P sz n := h.ext e0 (by decide) (by decide) (by decide)
  have q0 : cQ (cP 13 M a 2 (.int (cI M a 2 + 1))) a 0 = cQ M a 0 := e0.xcQ ho (by decide)
  have bn1 : OwnB (cP 13 M a 2 (.int (cI M a 2 + 1))) := bn.ext e0
  have de1 : dE.1 < (cP 13 M a 2 (.int (cI M a 2 + 1))).2.1 ∧ (cP 13 M a 2 (.int (cI M a 2 + 1))).1 dE.1 = none := ⟨de.1, by rw [n0 _ hane]; exact de.2⟩
  have hP1 : ∀ z, P z → cOk 10 (cP 13 M a 2 (.int (cI M a 2 + 1))) z ∨ cOk 11 (cP 13 M a 2 (.int (cI M a 2 + 1))) z := fun z hz => (hP z hz).imp e0.xcOk e0.xcOk
  have hM1 := e0.ok
  generalize cP 13 M a 2 (.int (cI M a 2 + 1)) = M1 at e0 n0 s0 h1 q0 bn1 de1 hP1 hM1 ⊢
  have ho1 := h1.ok
  have hs1 := h1.siz
  have so : S_AL_add2 cs lim dE M1 a (some y) (cQ M1 a 0) (cI M1 a 1) ∧ ∃ n', Ad1 cs dE M1 (F_AL_add2 cs dE M1 a (some y) (cQ M1 a 0) (cI M1 a 1)) a P sz n n' := by
    by_cases full : n = 0 ∨ ∃ m, n = m + 1 ∧ sz = gr m
    · have hx : (cI M1 a 1 + 1).toInt = (sz + 1 : Nat) := by ((try (simp only [vp_in, Int32.toNatClampNeg, Int32.lt_iff_toInt_lt, Int32.le_iff_toInt_le, ← Int32.toInt_inj, Int32.toInt_add, Int32.toInt_sub, Int32.toInt_mul, Int32.reduceToInt, i32_neg1, Nat.reducePow, Int.reducePow, ne_eq, ge_iff_le, gt_iff_lt] at *)) <;> (first | omega | ((simp (disch := omega) only [bm32] at *) <;> omega)))
      obtain ⟨g1, g2, g3, g4, g5, g6, g7, g8⟩ := al_grow (lim := lim) hM1 bn1 h1 de1 hP1 hn (by omega) (by rw [s0]; exact hl1) (by rw [s0]; exact hl2 full) full hx
      have heq : cQ M1 a 0 = some ((cQ M1 a 0).getD 0) ∧ oOk cs dE M1 ((cQ M1 a 0).getD 0) ∧ cI M1 a 1 = nI (aL M1 ((cQ M1 a 0).getD 0)) := by
        rcases h1.ref with ⟨r1, r2, r3⟩ | ⟨n', b, r1, r2, r3⟩
        · rw [r3]
          refine ⟨rfl, Or.inr ⟨rfl, de1.2⟩, ?_⟩
          have hL : aL M1 dE.1 = 0 := by unfold aL; rw [de1.2]
          show cI M1 a 1 = nI (aL M1 dE.1)
          rw [hL, ← Int32.toInt_inj, hs1, r2]
          rfl
        · rw [r2]
          refine ⟨rfl, Or.inl r3.ok, ?_⟩
          show cI M1 a 1 = nI (aL M1 b)
          obtain ⟨gl', gh'⟩ := gr_le (n := n') (by omega)
          rcases full with z | ⟨m, z1, z2⟩
          · omega
          · have : m = n' := by omega
            subst this
            rw [r3.len, ← Int32.toInt_inj, hs1, z2, nI_toI (by omega)]
      obtain ⟨x1, x2, x3⟩ := heq
      unfold S_AL_add2 F_AL_add2
      simp only [if_pos x3, mbind_eq]
      have fg : F_AL_grow cs dE M1 a = F_AL_grow2 cs dE M1 a (cI M1 a 1 + 1) := rfl
      rw [fg]
      have ex := xx_AL_grow2 cs lim dE M1 a (cI M1 a 1 + 1) hM1 g1
      generalize F_AL_grow2 cs dE M1 a (cI M1 a 1 + 1) = w9 at g2 g3 g4 g5 g6 g7 g8 ex ⊢
      obtain ⟨r, M2⟩ := w9
      dsimp only at g2 g3 g4 g5 g6 g7 g8 ex ⊢
      subst g2
      simp only [Option.getD_some]
      have hlt : sz < gr n := by
        rcases full with z | ⟨m, z1, z2⟩
        · subst z
          rcases h1.ref with ⟨r1, r2, r3⟩ | ⟨n', b, r1, r2, r3⟩
          · rw [r2]; decide
          · cases r1
        · subst z1
          obtain ⟨gl', gh'⟩ := gr_le (n := m) (by omega)
          have : gr (m + 1) = gr m + gr m / 2 := rfl
          omega
      rcases al_fin (dE := dE) (n := n + 1) g8 g3 g4 g5 hlt hs1 (by omega) hy with ⟨f1, f2⟩ | f
      rotate_left
      · exact absurd ⟨n, rfl, rfl⟩ f
      refine ⟨⟨⟨x1, x2⟩, ho1, ⟨ho1, ho1, g1, trivial⟩, ⟨trivial, g5.ok⟩, ?_, ?_, f1, trivial⟩, n + 1, f2, Or.inr ⟨rfl, ?_, full⟩, fun c h1c h2c h3c => ?_⟩
      · rw [g5.len]
        have := gr_le hn
        ((try (simp only [vp_in, Int32.toNatClampNeg, Int32.lt_iff_toInt_lt, Int32.le_iff_toInt_le, ← Int32.toInt_inj, Int32.toInt_add, Int32.toInt_sub, Int32.toInt_mul, Int32.reduceToInt, i32_neg1, Nat.reducePow, Int.reducePow, ne_eq, ge_iff_le, gt_iff_lt] at *)) <;> (first | omega | ((simp (disch := omega) only [bm32] at *) <;> omega)))
      · rcases hP1 y hy with z | z
        · exact Or.inl ⟨y, rfl, ex.1.xcOk z⟩
        · exact Or.inr ⟨y, rfl, ex.1.xcOk z⟩
      · show M2.2 = _
        exact g6
      · have : (cP 13 (aPq (cs 5) M2 M1.2.1 (cI M1 a 1).toNatClampNeg (some y)) a 1 (.int (cI M1 a 1 + 1))).1 c = M2.1 c := by
          unfold cP aPq
          rw [gup_n h1c, gup_n (by omega)]
        rw [this]
        exact g7 c h1c h3c
    · rcases h1.ref with ⟨r1, r2, r3⟩ | ⟨n', b, r1, r2, r3⟩
      · exact absurd (Or.inl r1) full
      · have hlt : sz < gr n' := by
          have := r3.le
          rcases Nat.lt_or_ge sz (gr n') with z | z
          · exact z
          · exact absurd (Or.inr ⟨n', r1, by omega⟩) full
        obtain ⟨gl', gh'⟩ := gr_le (n := n') (by omega)
        have hi : (nI (gr n')).toInt = (gr n' : Nat) := nI_toI (by omega)
        have hne : ¬ cI M1 a 1 = nI (aL M1 b) := by rw [r3.len, ← Int32.toInt_inj, hs1, hi]; omega
        unfold S_AL_add2 F_AL_add2
        rw [r2]
        simp only [Option.getD_some, if_neg hne]
        rcases al_fin (dE := dE) (n := n) hM1 ho1 r2 r3 hlt hs1 (by omega) hy with ⟨f1, f2⟩ | f
        rotate_left
        · exact absurd ⟨n', r1, rfl⟩ f
        refine ⟨⟨⟨trivial, Or.inl r3.ok⟩, ⟨trivial, r3.ok⟩, ?_, ?_, f1, trivial⟩, n, f2, Or.inl ⟨rfl, rfl⟩, fun c h1c h2c h3c => ?_⟩
        · rw [r3.len]
          ((try (simp only [vp_in, Int32.toNatClampNeg, Int32.lt_iff_toInt_lt, Int32.le_iff_toInt_le, ← Int32.toInt_inj, Int32.toInt_add, Int32.toInt_sub, Int32.toInt_mul, Int32.reduceToInt, i32_neg1, Nat.reducePow, Int.reducePow, ne_eq, ge_iff_le, gt_iff_lt] at *)) <;> (first | omega | ((simp (disch := omega) only [bm32] at *) <;> omega)))
        · rcases hP1 y hy with z | z
          · exact Or.inl ⟨y, rfl, z⟩
          · exact Or.inr ⟨y, rfl, z⟩
        · unfold cP aPq
          rw [gup_n h1c, gup_n (fun q => h2c (by rw [q]; exact r2))]
  obtain ⟨s2, n', A1⟩ := so
  refine ⟨⟨ho, ho, ho1, ho1, ho1, s2, trivial⟩, n', A1.li, ?_, fun c c1 c2 c3 => ?_⟩
  · have := A1.siz
    rw [s0] at this
    exact this
  · rw [A1.fr c c1 (by rw [q0]; exact c2) (by rw [s0]; exact c3)]
    exact n0 c c1
end
end
section
/-! pure rows, the class: the store -/
def MR (lim : Nat × Nat) (r1 r2 NF : Nat) (M : gMem) (nf nt kf kt : Nat) : Prop := (nf ≤ NF) ∧ (NF ≤ 103401) ∧ (nt ≤ 1000) ∧ (kf ≤ 24) ∧ (kt ≤ 13) ∧ (M.2.1 + r1 + 2 * NF + 2060 ≤ lim.1 + 2 * nf + 2 * nt + kf + kt) ∧ (M.2.2 + r2 + 55 * NF + 17000 + 323900 ≤ lim.2 + 55 * nf + 17 * nt + gs kf + gs kt)
theorem MR.f {lim : Nat × Nat} {r1 r2 NF : Nat} {M : gMem} {nf nt kf kt : Nat} (self : MR lim r1 r2 NF M nf nt kf kt) : nf ≤ NF := self.1
theorem MR.F {lim : Nat × Nat} {r1 r2 NF : Nat} {M : gMem} {nf nt kf kt : Nat} (self : MR lim r1 r2 NF M nf nt kf kt) : NF ≤ 103401 := self.2.1
theorem MR.t {lim : Nat × Nat} {r1 r2 NF : Nat} {M : gMem} {nf nt kf kt : Nat} (self : MR lim r1 r2 NF M nf nt kf kt) : nt ≤ 1000 := self.2.2.1
theorem MR.kf {lim : Nat × Nat} {r1 r2 NF : Nat} {M : gMem} {nf nt kf kt : Nat} (self : MR lim r1 r2 NF M nf nt kf kt) : kf ≤ 24 := self.2.2.2.1
theorem MR.kt {lim : Nat × Nat} {r1 r2 NF : Nat} {M : gMem} {nf nt kf kt : Nat} (self : MR lim r1 r2 NF M nf nt kf kt) : kt ≤ 13 := self.2.2.2.2.1
theorem MR.c {lim : Nat × Nat} {r1 r2 NF : Nat} {M : gMem} {nf nt kf kt : Nat} (self : MR lim r1 r2 NF M nf nt kf kt) : M.2.1 + r1 + 2 * NF + 2060 ≤ lim.1 + 2 * nf + 2 * nt + kf + kt := self.2.2.2.2.2.1
theorem MR.s {lim : Nat × Nat} {r1 r2 NF : Nat} {M : gMem} {nf nt kf kt : Nat} (self : MR lim r1 r2 NF M nf nt kf kt) : M.2.2 + r2 + 55 * NF + 17000 + 323900 ≤ lim.2 + 55 * nf + 17 * nt + gs kf + gs kt := self.2.2.2.2.2.2
def HS (cs : Nat → ClassId) (lim dE : Nat × Nat) (A : Ad) (r1 r2 NF : Nat) (g4 : Nat → Int32) (k4 : Nat) (Fs Ts : Nat → Prop) (M : gMem) : Prop := ∃ nf nt kf kt, HTL cs dE A Fs Ts nf nt kf kt g4 k4 M ∧ MR lim r1 r2 NF M nf nt kf kt
/-- what is made new, with arrays of its own -/
theorem Ext.fresh2 {M M' : gMem} (hM : MOk M) (h : ∀ c, c < M.2.1 → M'.1 c = M.1 c) (s1 : M.2.1 ≤ M'.2.1) (s2 : M.2.2 ≤ M'.2.2) (ok : MOk M') (own : ∀ a ci k b, M.2.1 ≤ a → (ci, k) ∈ OWN → cOk ci M' a → cQ M' a k = some b → M.2.1 ≤ b ∧ b < M'.2.1) : Ext [] [] true M M' := by
  have e : ∀ a x, M.1 a = some x → M'.1 a = some x := fun a x hx => by rw [h a (hM.lt hx)]; exact hx
  have o : ∀ a ci, a < M.2.1 → cOk ci M' a → cOk ci M a := fun a ci ha ho => (cOk_cong (h a ha)).mp ho
  refine ⟨fun _ a x hx _ => e a x hx, fun a ci fs hx => ⟨fs, e a _ hx, fun z => z, fun _ _ => rfl⟩, fun b cA n f hx => ⟨f, e b _ hx, fun _ => rfl⟩, fun b cA n f hx => ⟨f, e b _ hx, fun _ => rfl⟩, ⟨s1, s2, fun z => by cases z⟩, fun a ha ha' => ?_, fun a b ci k hk ho hq hb => ?_, fun a b ci k hk ho hq => ?_, ok⟩
  · rcases Nat.lt_or_ge a M.2.1 with g | g
    · rw [h a g] at ha'; exact absurd ha ha'
    · exact g
  · rcases Nat.lt_or_ge a M.2.1 with g | g
    · exact ⟨o a ci g ho, by rw [← cQ_cong (h a g)]; exact hq⟩
    · have := own a ci k b g hk ho hq; omega
  · rcases Nat.lt_or_ge a M.2.1 with g | g
    · exact Or.inr ⟨o a ci g ho, by rw [← cQ_cong (h a g)]; exact hq⟩
    · exact Or.inl (own a ci k b g hk ho hq).2
section
variable {cs : Nat → ClassId} {lim dE : Nat × Nat} {A : Ad} {Fs Ts P Q : Nat → Prop} {nf nt kf kt r1 r2 NF : Nat} {g4 : Nat → Int32} {k4 : Nat} {M M' : gMem} {a b sz n : Nat}
theorem ArI.imp {cap : Nat} (h : ArI cs M a b P sz cap) (hi : ∀ z, P z → Q z) : ArI cs M a b Q sz cap := ⟨h.ok, h.len, h.le, h.sole, h.lt, fun i hi' => by obtain ⟨y, y1, y2⟩ := h.el i hi'; exact ⟨y, y1, hi y y2⟩, h.no⟩
theorem LiI.imp (h : LiI cs dE M a P sz n) (hi : ∀ z, P z → Q z) : LiI cs dE M a Q sz n := ⟨h.ok, h.siz, h.ref.imp id (fun ⟨n', b, g1, g2, g3⟩ => ⟨n', b, g1, g2, g3.imp hi⟩)⟩
theorem FrOk.imp {Fs' Ts' : Nat → Prop} (h : FrOk cs Fs Ts M a) (h1 : ∀ z, Fs z → Fs' z) (h2 : ∀ z, Ts z → Ts' z) : FrOk cs Fs' Ts' M a := ⟨h.ok, h.sl, h.ht, fun z hz => h2 z (h.ha z hz), fun z hz => h1 z (h.be z hz)⟩
theorem ThOk.imp {Fs' : Nat → Prop} (h : ThOk cs Fs M a) (h1 : ∀ z, Fs z → Fs' z) : ThOk cs Fs' M a := ⟨h.ok, h.nm, fun z hz => h1 z (h.up z hz), fun z hz => h1 z (h.lo z hz)⟩
/-- one frame more is known -/
theorem HTL.addF {f : Nat} (h : HTL cs dE A Fs Ts nf nt kf kt g4 k4 M) (hf : FrOk cs (fun z => Fs z ∨ z = f) Ts M f) : HTL cs dE A (fun z => Fs z ∨ z = f) Ts nf nt kf kt g4 k4 M := by
  have i : ∀ z, Fs z → Fs z ∨ z = f := fun z hz => Or.inl hz
  refine ⟨h.lay, h.c4, fun a ha => ?_, fun a ha => (h.th a ha).imp i, h.fl.imp i, h.tl, fun z hz => i z (h.top z hz), fun z hz => i z (h.free z hz), h.fu, h.tu, h.de⟩
  rcases ha with ha | rfl
  · exact (h.fr a ha).imp i (fun _ z => z)
  · exact hf
theorem HTL.addT {f : Nat} (h : HTL cs dE A Fs Ts nf nt kf kt g4 k4 M) (hf : ThOk cs Fs M f) : HTL cs dE A Fs (fun z => Ts z ∨ z = f) nf nt kf kt g4 k4 M := by
  have i : ∀ z, Ts z → Ts z ∨ z = f := fun z hz => Or.inl hz
  refine ⟨h.lay, h.c4, fun a ha => (h.fr a ha).imp (fun _ z => z) i, fun a ha => ?_, h.fl, h.tl.imp i, h.top, h.free, h.fu, h.tu, h.de⟩
  rcases ha with ha | rfl
  · exact h.th a ha
  · exact hf
/-- a list that isn't added to -/
theorem LiI.other {a' n' : Nat} (h : LiI cs dE M a' Q sz n') (hM : MOk M) (de : M.1 dE.1 = none) (hne : a' ≠ a) (l : LiI cs dE M a P nf n) (e : Ext [(13, 0), (13, 1), (13, 2)] [(13, 0)] true M M') (fr : ∀ c, c ≠ a → cQ M a 0 ≠ some c → c < M.2.1 → M'.1 c = M.1 c) : LiI cs dE M' a' Q sz n' := by
  have na : ∀ {ci c : Nat}, cOk ci M c → cQ M a 0 ≠ some c := fun hc hq => by
    rcases l.ref with ⟨-, -, g⟩ | ⟨m, b, -, g, g3⟩
    · rw [g] at hq
      cases hq
      obtain ⟨fs, e1, -⟩ := hc
      rw [de] at e1
      cases e1
    · rw [g] at hq
      cases hq
      exact hc.notQ g3.ok
  have e1 : M'.1 a' = M.1 a' := fr a' hne (na h.ok) (h.ok.lt hM)
  refine ⟨(cOk_cong e1).mpr h.ok, by rw [cI_cong e1]; exact h.siz, ?_⟩
  rw [cQ_cong e1]
  rcases h.ref with g | ⟨m, b, g1, g2, g3⟩
  · exact Or.inl g
  · refine Or.inr ⟨m, b, g1, g2, ?_⟩
    have hb : M'.1 b = M.1 b := by
      refine fr b (fun q => ?_) (fun q => ?_) g3.lt
      · subst q; exact l.ok.notQ g3.ok
      · have := g3.sole a 13 0 (by decide) l.ok q
        exact hne this.2.2.symm
    obtain ⟨z1, z2, z3⟩ := g3.ok
    exact ⟨⟨z1, z2, by rw [hb]; exact z3⟩, by rw [aL_cong hb]; exact g3.len, g3.le, g3.sole.ext e g3.lt, Nat.lt_of_lt_of_le g3.lt e.sz.1, by rw [aQ_cong hb]; exact g3.el, by rw [aQ_cong hb]; exact g3.no⟩
theorem gs_le : ∀ {k : Nat}, k ≤ 24 → gs k ≤ 320123 := by
  have d : ∀ k, k ≤ 24 → gs k ≤ 320123 := by decide
  exact fun {k} h => d k h
theorem gs_le13 : ∀ {k : Nat}, k ≤ 13 → gs k ≤ 3700 := by
  have d : ∀ k, k ≤ 13 → gs k ≤ 3700 := by decide
  exact fun {k} h => d k h
theorem full_f {k nf : Nat} (h : k = 0 ∨ ∃ m, k = m + 1 ∧ nf = gr m) (hk : k ≤ 24) (hn : nf < 103401) : k ≤ 23 := by
  rcases h with h | ⟨m, h1, h2⟩
  · omega
  · rcases Nat.lt_or_ge m 23 with z | z
    · omega
    · have : m = 23 := by omega
      subst this
      have : gr 23 = 106710 := by decide
      omega
theorem full_t {k nt : Nat} (h : k = 0 ∨ ∃ m, k = m + 1 ∧ nt = gr m) (hk : k ≤ 13) (hn : nt < 1000) : k ≤ 12 := by
  rcases h with h | ⟨m, h1, h2⟩
  · omega
  · rcases Nat.lt_or_ge m 12 with z | z
    · omega
    · have : m = 12 := by omega
      subst this
      have : gr 12 = 1234 := by decide
      omega
end
end
section
/-! pure rows, the class: a frame is taken -/
section
variable {cs : Nat → ClassId} {lim dE : Nat × Nat} {A : Ad} {Fs Ts : Nat → Prop} {nf nt kf kt r1 r2 NF : Nat} {g4 : Nat → Int32} {k4 : Nat} {M M' : gMem} {a b sz n : Nat}
theorem HTL.elF (h : HTL cs dE A Fs Ts nf nt kf kt g4 k4 M) : ∀ z, Fs z → cOk 10 M z ∨ cOk 11 M z := fun z hz => Or.inl (h.fr z hz).ok
theorem HTL.elT (h : HTL cs dE A Fs Ts nf nt kf kt g4 k4 M) : ∀ z, Ts z → cOk 10 M z ∨ cOk 11 M z := fun z hz => Or.inr (h.th z hz).ok
theorem own10 {k : Nat} (h : (10, k) ∈ OWN) : k = 0 := by
  have d : ∀ w ∈ OWN, w.1 = 10 → w.2 = 0 := by decide
  exact d _ h rfl
theorem own11 {k : Nat} (h : (11, k) ∈ OWN) : k = 0 := by
  have d : ∀ w ∈ OWN, w.1 = 11 → w.2 = 0 := by decide
  exact d _ h rfl
/-- a new frame -/
theorem fr_init (h : HTL cs dE A Fs Ts nf nt kf kt g4 k4 M) (hl1 : M.2.1 + 2 ≤ lim.1) (hl2 : M.2.2 + 55 ≤ lim.2) :
    S_Fr_init cs lim (gnw M (1, .inr (10, [.null, .int 0, .int 0, .null, .null])) 5) M.2.1 ∧ ∃ M2, F_Fr_init cs (gnw M (1, .inr (10, [.null, .int 0, .int 0, .null, .null])) 5) M.2.1 = M2 ∧ HTL cs dE A (fun z => Fs z ∨ z = M.2.1) Ts nf nt kf kt g4 k4 M2 ∧ M2.2 = (M.2.1 + 2, M.2.2 + 55) ∧ (∀ c, c < M.2.1 → M2.1 c = M.1 c) := by
  have hM := h.lay.mok
  generalize hf : M.2.1 = f
  have s0 : (gnw M (1, .inr (10, [.null, .int 0, .int 0, .null, .null])) 5).2 = (f + 1, M.2.2 + 5) := by rw [← hf]; rfl
  have m0 : ∀ c, c ≠ f → (gnw M (1, .inr (10, [.null, .int 0, .int 0, .null, .null])) 5).1 c = M.1 c := fun c hc => gnw_n (by rw [hf]; exact hc)
  have f0 : (gnw M (1, .inr (10, [.null, .int 0, .int 0, .null, .null])) 5).1 f = some (1, .inr (10, [.null, .int 0, .int 0, .null, .null])) := by rw [← hf]; exact gnw_s
  have cw : cwt 10 [.null, .int 0, .int 0, .null, .null] := by
    refine ⟨rfl, fun k hk => ?_⟩
    have : k = 0 ∨ k = 1 ∨ k = 2 ∨ k = 3 ∨ k = 4 := by
      have : k < 5 := hk
      omega
    rcases this with rfl | rfl | rfl | rfl | rfl
    · exact ⟨fun _ => ⟨none, rfl⟩, fun z => absurd rfl z⟩
    · exact ⟨fun z => absurd z (by decide), fun _ => ⟨0, rfl⟩⟩
    · exact ⟨fun z => absurd z (by decide), fun _ => ⟨0, rfl⟩⟩
    · exact ⟨fun _ => ⟨none, rfl⟩, fun z => absurd rfl z⟩
    · exact ⟨fun _ => ⟨none, rfl⟩, fun z => absurd rfl z⟩
  generalize gnw M (1, .inr (10, [.null, .int 0, .int 0, .null, .null])) 5 = M0 at s0 m0 f0 ⊢
  have t50 : (50 : Int32).toNatClampNeg = 50 := by decide
  unfold S_Fr_init F_Fr_init
  simp only [t50]
  have s1 : (gnw M0 (1, .inl (cs 0, 50, .inl (fun _ => 0))) 50).2 = (f + 2, M.2.2 + 55) := by
    show (M0.2.1 + 1, M0.2.2 + 50) = _
    rw [s0]
  have e0 : M0.2.1 = f + 1 := by rw [s0]
  have m1 : ∀ c, c ≠ f + 1 → (gnw M0 (1, .inl (cs 0, 50, .inl (fun _ => 0))) 50).1 c = M0.1 c := fun c hc => gnw_n (by rw [e0]; exact hc)
  have b1 : (gnw M0 (1, .inl (cs 0, 50, .inl (fun _ => 0))) 50).1 (f + 1) = some (1, .inl (cs 0, 50, .inl (fun _ => 0))) := by rw [← e0]; exact gnw_s
  generalize gnw M0 (1, .inl (cs 0, 50, .inl (fun _ => 0))) 50 = M1 at s1 m1 b1 ⊢
  have f1 : M1.1 f = some (1, .inr (10, [.null, .int 0, .int 0, .null, .null])) := by rw [m1 f (by omega)]; exact f0
  have o1 : cOk 10 M1 f := ⟨_, f1, cw⟩
  have o2 : cOk 10 (cP 10 M1 f 0 (va_rf (some M0.2.1))) f := cOk_put (fun _ => ⟨_, rfl⟩) (fun z => (z (by decide)).elim) o1 o1
  have o3 : cOk 10 (cP 10 (cP 10 M1 f 0 (va_rf (some M0.2.1))) f 1 (.int 10)) f := cOk_putI (by decide) o2 o2
  have g1 : (cP 10 (cP 10 M1 f 0 (va_rf (some M0.2.1))) f 1 (.int 10)).1 f = some (1, .inr (10, [.ref (f + 1), .int 10, .int 0, .null, .null])) := by
    unfold cP
    rw [gup_s, cO_gup, cO_of f1, e0]
    rfl
  have n3 : ∀ c, c ≠ f → (cP 10 (cP 10 M1 f 0 (va_rf (some M0.2.1))) f 1 (.int 10)).1 c = M1.1 c := fun c hc => by
    unfold cP
    rw [gup_n hc, gup_n hc]
  have s3 : (cP 10 (cP 10 M1 f 0 (va_rf (some M0.2.1))) f 1 (.int 10)).2 = (f + 2, M.2.2 + 55) := s1
  refine ⟨⟨⟨⟨by decide, by decide⟩, by rw [e0]; omega, by rw [s0]; show M.2.2 + 5 + 50 ≤ _; omega⟩, o1, o2, trivial⟩, _, rfl, ?_, s3, fun c hc => ?_⟩
  rotate_left
  · rw [n3 c (by omega), m1 c (by omega), m0 c (by omega)]
  generalize cP 10 (cP 10 M1 f 0 (va_rf (some M0.2.1))) f 1 (.int 10) = M2 at o3 g1 n3 s3 ⊢
  have low : ∀ c, c < M.2.1 → M2.1 c = M.1 c := fun c hc => by rw [n3 c (by omega), m1 c (by omega), m0 c (by omega)]
  have hi : ∀ c, f + 2 ≤ c → M2.1 c = none := fun c hc => by rw [n3 c (by omega), m1 c (by omega), m0 c (by omega)]; exact hM c (by omega)
  have b2 : M2.1 (f + 1) = some (1, .inl (cs 0, 50, .inl (fun _ => 0))) := by rw [n3 _ (by omega)]; exact b1
  have cf : cO M2 f = [.ref (f + 1), .int 10, .int 0, .null, .null] := cO_of g1
  have e : Ext [] [] true M M2 := by
    refine Ext.fresh2 hM low (by rw [s3, hf]; show f ≤ f + 2; omega) (by rw [s3]; show M.2.2 ≤ M.2.2 + 55; omega) (fun c hc => hi c (by rw [s3] at hc; exact hc)) ?_
    intro c ci k b hc hk ho hq
    rw [s3]
    show M.2.1 ≤ b ∧ b < f + 2
    by_cases q : c = f
    · subst q
      have := ho.uniq o3
      subst this
      have := own10 hk
      subst this
      unfold cQ at hq
      rw [cf] at hq
      cases hq
      omega
    · exfalso
      obtain ⟨fs, e1, -⟩ := ho
      by_cases q2 : c = f + 1
      · subst q2
        rw [b2] at e1
        cases e1
      · rw [hi c (by omega)] at e1
        cases e1
  have h2 := h.ext e (by decide) (by decide)
  refine h2.addF ⟨o3, ⟨f + 1, by unfold cQ; rw [cf]; rfl, ⟨_, _, b2⟩, (aI_of b2).1⟩, by unfold cI; rw [cf]; show 10 ≤ (10 : Int32).toInt ∧ (10 : Int32).toInt ≤ 50; decide, fun z hz => ?_, fun z hz => ?_⟩
  · unfold cQ at hz; rw [cf] at hz; cases hz
  · unfold cQ at hz; rw [cf] at hz; cases hz
end
end
