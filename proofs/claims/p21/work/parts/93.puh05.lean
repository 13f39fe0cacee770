-- pure rows: HH,HI
section
/-! pure rows, the class: what frames and things hold, told apart from where it lies -/
abbrev Vw : Type := (Nat → Nat → Int32) × (Nat → Nat → Int32) × (Nat → Nat → Option Nat)
def vpi (w : Vw) (a k : Nat) (x : Int32) : Vw := (w.1, fun c j => if c = a ∧ j = k then x else w.2.1 c j, w.2.2)
def vpq (w : Vw) (a k : Nat) (r : Option Nat) : Vw := (w.1, w.2.1, fun c j => if c = a ∧ j = k then r else w.2.2 c j)
def vps (w : Vw) (a j : Nat) (x : Int32) : Vw := (fun c i => if c = a ∧ i = j then x else w.1 c i, w.2.1, w.2.2)
def vpS (w : Vw) (a : Nat) (f : Nat → Int32) : Vw := (fun c i => if c = a then f i else w.1 c i, w.2.1, w.2.2)
section
variable {w : Vw} {a k c j : Nat} {x : Int32} {r : Option Nat} {f : Nat → Int32}
theorem vpi_s : (vpi w a k x).1 = w.1 := rfl
theorem vpi_i : (vpi w a k x).2.1 c j = if c = a ∧ j = k then x else w.2.1 c j := rfl
theorem vpi_q : (vpi w a k x).2.2 = w.2.2 := rfl
theorem vpq_s : (vpq w a k r).1 = w.1 := rfl
theorem vpq_i : (vpq w a k r).2.1 = w.2.1 := rfl
theorem vpq_q : (vpq w a k r).2.2 c j = if c = a ∧ j = k then r else w.2.2 c j := rfl
theorem vps_s : (vps w a k x).1 c j = if c = a ∧ j = k then x else w.1 c j := rfl
theorem vps_i : (vps w a k x).2.1 = w.2.1 := rfl
theorem vps_q : (vps w a k x).2.2 = w.2.2 := rfl
theorem vpS_s : (vpS w a f).1 c j = if c = a then f j else w.1 c j := rfl
theorem vpS_i : (vpS w a f).2.1 = w.2.1 := rfl
theorem vpS_q : (vpS w a f).2.2 = w.2.2 := rfl
end
/-- the i-th of a list -/
def FsO (fa : Nat → Nat) (nf : Nat) : Nat → Prop := fun z => ∃ i, i < nf ∧ fa i = z
/-- what is read is as told -/
def Ag (A : Ad) (Fs Ts : Nat → Prop) (M : gMem) (w : Vw) : Prop := (∀ a, Fs a ∨ Ts a → ∃ b, cQ M a 0 = some b ∧ ∀ j, aF M b j = w.1 a j) ∧ (∀ a k, Fs a ∨ Ts a ∨ a = A.ma ∨ a = A.st → cI M a k = w.2.1 a k ∧ cQ M a k = w.2.2 a k)
/-- each has an array of its own -/
def SoA (M : gMem) (ci a : Nat) : Prop := ∃ b, cQ M a 0 = some b ∧ Sole M ci 0 a b ∧ b < M.2.1
def VS (cs : Nat → ClassId) (lim dE : Nat × Nat) (A : Ad) (r1 r2 NF : Nat) (g4 : Nat → Int32) (k4 : Nat) (fa ta : Nat → Nat) (nf nt : Nat) (M : gMem) (w : Vw) : Prop := (∃ kf kt, HTL cs dE A (FsO fa nf) (FsO ta nt) nf nt kf kt g4 k4 M ∧ MR lim r1 r2 NF M nf nt kf kt ∧ LiJ cs dE M A.fl (fun i z => z = fa i) nf kf ∧ LiJ cs dE M A.tl (fun i z => z = ta i) nt kt) ∧ (∀ a, FsO fa nf a → SoA M 10 a) ∧ (∀ a, FsO ta nt a → SoA M 11 a) ∧ (Ag A (FsO fa nf) (FsO ta nt) M w) ∧ (∀ i j, i < nf → j < nf → fa i = fa j → i = j) ∧ (∀ i j, i < nt → j < nt → ta i = ta j → i = j)
theorem VS.h {cs : Nat → ClassId} {lim dE : Nat × Nat} {A : Ad} {r1 r2 NF : Nat} {g4 : Nat → Int32} {k4 : Nat} {fa ta : Nat → Nat} {nf nt : Nat} {M : gMem} {w : Vw} (self : VS cs lim dE A r1 r2 NF g4 k4 fa ta nf nt M w) : ∃ kf kt, HTL cs dE A (FsO fa nf) (FsO ta nt) nf nt kf kt g4 k4 M ∧ MR lim r1 r2 NF M nf nt kf kt ∧ LiJ cs dE M A.fl (fun i z => z = fa i) nf kf ∧ LiJ cs dE M A.tl (fun i z => z = ta i) nt kt := self.1
theorem VS.sf {cs : Nat → ClassId} {lim dE : Nat × Nat} {A : Ad} {r1 r2 NF : Nat} {g4 : Nat → Int32} {k4 : Nat} {fa ta : Nat → Nat} {nf nt : Nat} {M : gMem} {w : Vw} (self : VS cs lim dE A r1 r2 NF g4 k4 fa ta nf nt M w) : ∀ a, FsO fa nf a → SoA M 10 a := self.2.1
theorem VS.st {cs : Nat → ClassId} {lim dE : Nat × Nat} {A : Ad} {r1 r2 NF : Nat} {g4 : Nat → Int32} {k4 : Nat} {fa ta : Nat → Nat} {nf nt : Nat} {M : gMem} {w : Vw} (self : VS cs lim dE A r1 r2 NF g4 k4 fa ta nf nt M w) : ∀ a, FsO ta nt a → SoA M 11 a := self.2.2.1
theorem VS.ag {cs : Nat → ClassId} {lim dE : Nat × Nat} {A : Ad} {r1 r2 NF : Nat} {g4 : Nat → Int32} {k4 : Nat} {fa ta : Nat → Nat} {nf nt : Nat} {M : gMem} {w : Vw} (self : VS cs lim dE A r1 r2 NF g4 k4 fa ta nf nt M w) : Ag A (FsO fa nf) (FsO ta nt) M w := self.2.2.2.1
theorem VS.fi {cs : Nat → ClassId} {lim dE : Nat × Nat} {A : Ad} {r1 r2 NF : Nat} {g4 : Nat → Int32} {k4 : Nat} {fa ta : Nat → Nat} {nf nt : Nat} {M : gMem} {w : Vw} (self : VS cs lim dE A r1 r2 NF g4 k4 fa ta nf nt M w) : ∀ i j, i < nf → j < nf → fa i = fa j → i = j := self.2.2.2.2.1
theorem VS.ti {cs : Nat → ClassId} {lim dE : Nat × Nat} {A : Ad} {r1 r2 NF : Nat} {g4 : Nat → Int32} {k4 : Nat} {fa ta : Nat → Nat} {nf nt : Nat} {M : gMem} {w : Vw} (self : VS cs lim dE A r1 r2 NF g4 k4 fa ta nf nt M w) : ∀ i j, i < nt → j < nt → ta i = ta j → i = j := self.2.2.2.2.2
section
variable {cs : Nat → ClassId} {lim dE : Nat × Nat} {A : Ad} {r1 r2 NF : Nat} {g4 : Nat → Int32} {k4 : Nat} {fa ta : Nat → Nat} {nf nt : Nat} {M M' : gMem} {w w' : Vw} {a b c t n ci k : Nat}
theorem VS.hs (h : (VS cs lim dE A r1 r2 NF g4 k4) fa ta nf nt M w) : HS cs lim dE A r1 r2 NF g4 k4 (FsO fa nf) (FsO ta nt) M := by
  obtain ⟨kf, kt, h1, h2, -⟩ := h.h
  exact ⟨nf, nt, kf, kt, h1, h2⟩
theorem VS.lay (h : (VS cs lim dE A r1 r2 NF g4 k4) fa ta nf nt M w) : Lay cs A M := h.hs.lay
theorem VS.oF (h : (VS cs lim dE A r1 r2 NF g4 k4) fa ta nf nt M w) (ha : FsO fa nf a) : cOk 10 M a := (h.hs.fr ha).ok
theorem VS.oT (h : (VS cs lim dE A r1 r2 NF g4 k4) fa ta nf nt M w) (ha : FsO ta nt a) : cOk 11 M a := (h.hs.th ha).ok
theorem VS.oM (h : (VS cs lim dE A r1 r2 NF g4 k4) fa ta nf nt M w) : cOk 8 M A.ma := h.lay.ma_0.1
theorem VS.oS (h : (VS cs lim dE A r1 r2 NF g4 k4) fa ta nf nt M w) : cOk 9 M A.st := h.lay.st_0.1
/-- who is known is an object -/
theorem VS.kn (h : (VS cs lim dE A r1 r2 NF g4 k4) fa ta nf nt M w) (ha : FsO fa nf a ∨ FsO ta nt a ∨ a = A.ma ∨ a = A.st) : ∃ ci, cOk ci M a := by
  rcases ha with g | g | g | g
  · exact ⟨10, h.oF g⟩
  · exact ⟨11, h.oT g⟩
  · subst g; exact ⟨8, h.oM⟩
  · subst g; exact ⟨9, h.oS⟩
theorem VS.I (h : (VS cs lim dE A r1 r2 NF g4 k4) fa ta nf nt M w) (ha : FsO fa nf a ∨ FsO ta nt a ∨ a = A.ma ∨ a = A.st) (k : Nat) : cI M a k = w.2.1 a k := (h.ag.2 a k ha).1
theorem VS.Q (h : (VS cs lim dE A r1 r2 NF g4 k4) fa ta nf nt M w) (ha : FsO fa nf a ∨ FsO ta nt a ∨ a = A.ma ∨ a = A.st) (k : Nat) : cQ M a k = w.2.2 a k := (h.ag.2 a k ha).2
theorem VS.neFT (h : (VS cs lim dE A r1 r2 NF g4 k4) fa ta nf nt M w) (ha : FsO fa nf a) (hb : FsO ta nt b) : a ≠ b := fun q => by subst q; have := (h.oF ha).uniq (h.oT hb); omega
theorem VS.neFM (h : (VS cs lim dE A r1 r2 NF g4 k4) fa ta nf nt M w) (ha : FsO fa nf a) : a ≠ A.ma := fun q => by subst q; have := (h.oF ha).uniq h.oM; omega
theorem VS.neFS (h : (VS cs lim dE A r1 r2 NF g4 k4) fa ta nf nt M w) (ha : FsO fa nf a) : a ≠ A.st := fun q => by subst q; have := (h.oF ha).uniq h.oS; omega
theorem VS.neTM (h : (VS cs lim dE A r1 r2 NF g4 k4) fa ta nf nt M w) (ha : FsO ta nt a) : a ≠ A.ma := fun q => by subst q; have := (h.oT ha).uniq h.oM; omega
theorem VS.neTS (h : (VS cs lim dE A r1 r2 NF g4 k4) fa ta nf nt M w) (ha : FsO ta nt a) : a ≠ A.st := fun q => by subst q; have := (h.oT ha).uniq h.oS; omega
theorem VS.neMS (h : (VS cs lim dE A r1 r2 NF g4 k4) fa ta nf nt M w) : A.ma ≠ A.st := fun q => by have := (q ▸ h.oM : cOk 8 M A.st).uniq h.oS; omega
/-- a field that holds an int: what is read of references stays -/
theorem cQ_int {x : Int32} (ho : cOk ci M a) (h2 : (ckd ci).getD k 0 ≠ 2) (c j : Nat) : cQ (cP ci M a k (.int x)) c j = cQ M c j := by
  by_cases h : c = a ∧ j = k
  · obtain ⟨rfl, rfl⟩ := h
    obtain ⟨fs, e1, e2⟩ := ho
    unfold cQ cP
    rw [cO_gup, cO_of e1]
    by_cases hl : j < fs.length
    · obtain ⟨y, hy⟩ := (e2.2 j hl).2 h2
      rw [List.getElem?_set_self hl, hy]
      rfl
    · rw [List.getElem?_eq_none (by rw [List.length_set]; omega), List.getElem?_eq_none (by omega)]
  · exact cQ_put_ne (by by_cases q : c = a; exact Or.inr (fun z => h ⟨q, z⟩); exact Or.inl q)
theorem cI_ref {r : Option Nat} (ho : cOk ci M a) (h2 : (ckd ci).getD k 0 = 2) (c j : Nat) : cI (cP ci M a k (va_rf r)) c j = cI M c j := by
  by_cases h : c = a ∧ j = k
  · obtain ⟨rfl, rfl⟩ := h
    obtain ⟨fs, e1, e2⟩ := ho
    unfold cI cP
    rw [cO_gup, cO_of e1]
    by_cases hl : j < fs.length
    · obtain ⟨y, hy⟩ := (e2.2 j hl).1 h2
      rw [List.getElem?_set_self hl, hy]
      cases r <;> cases y <;> rfl
    · rw [List.getElem?_eq_none (by rw [List.length_set]; omega), List.getElem?_eq_none (by omega)]
  · exact cI_put_ne (by by_cases q : c = a; exact Or.inr (fun z => h ⟨q, z⟩); exact Or.inl q)
/-- the parts that don't speak of what is read -/
theorem VS.keep {W V : List (Nat × Nat)} (h : (VS cs lim dE A r1 r2 NF g4 k4) fa ta nf nt M w) (hs : M'.2 = M.2) (e : Ext W V false M M') (hW : W.all (fun x => x != (13, 0) && x != (13, 1) && x != (10, 0) && x != (11, 0)) = true) (hV : V.contains (13, 0) = false)
    (ht : ∀ kf kt, HTL cs dE A (FsO fa nf) (FsO ta nt) nf nt kf kt g4 k4 M → HTL cs dE A (FsO fa nf) (FsO ta nt) nf nt kf kt g4 k4 M') (ag : Ag A (FsO fa nf) (FsO ta nt) M' w') : (VS cs lim dE A r1 r2 NF g4 k4) fa ta nf nt M' w' := by
  have nw : ∀ x : Nat × Nat, (x = (13, 0) ∨ x = (13, 1) ∨ x = (10, 0) ∨ x = (11, 0)) → x ∉ W := fun x hx hm => by
    have := List.all_eq_true.mp hW x hm
    rcases hx with rfl | rfl | rfl | rfl <;> simp [si_1, si_2, sl_1, sl_2, sl_3, ai_1, ai_2, ai_3, ai_4, al_1, al_2, al_3, al_4, cp_1, cp_2, cp_3, cp_4] at this
  have nc : ∀ x : Nat × Nat, (x = (13, 0) ∨ x = (13, 1) ∨ x = (10, 0) ∨ x = (11, 0)) → W.contains x = false := fun x hx => by
    cases hc : W.contains x with
    | false => rfl
    | true => exact absurd (List.contains_iff_mem.mp hc) (nw x hx)
  obtain ⟨kf, kt, h1, h2, h3, h4⟩ := h.h
  refine ⟨⟨kf, kt, ht _ _ h1, ⟨h2.f, h2.F, h2.t, h2.kf, h2.kt, by rw [hs]; exact h2.c, by rw [hs]; exact h2.s⟩, h3.ext e (nc _ (by simp [si_1, si_2, sl_1, sl_2, sl_3, ai_1, ai_2, ai_3, ai_4, al_1, al_2, al_3, al_4, cp_1, cp_2, cp_3, cp_4])) (nc _ (by simp [si_1, si_2, sl_1, sl_2, sl_3, ai_1, ai_2, ai_3, ai_4, al_1, al_2, al_3, al_4, cp_1, cp_2, cp_3, cp_4])) hV, h4.ext e (nc _ (by simp [si_1, si_2, sl_1, sl_2, sl_3, ai_1, ai_2, ai_3, ai_4, al_1, al_2, al_3, al_4, cp_1, cp_2, cp_3, cp_4])) (nc _ (by simp [si_1, si_2, sl_1, sl_2, sl_3, ai_1, ai_2, ai_3, ai_4, al_1, al_2, al_3, al_4, cp_1, cp_2, cp_3, cp_4])) hV⟩, fun a ha => ?_, fun a ha => ?_, ag, h.fi, h.ti⟩
  · obtain ⟨b, b1, b2, b3⟩ := h.sf a ha
    exact ⟨b, by rw [e.xcQ (h.oF ha) (nw _ (by simp [si_1, si_2, sl_1, sl_2, sl_3, ai_1, ai_2, ai_3, ai_4, al_1, al_2, al_3, al_4, cp_1, cp_2, cp_3, cp_4]))]; exact b1, b2.ext e b3, Nat.lt_of_lt_of_le b3 e.sz.1⟩
  · obtain ⟨b, b1, b2, b3⟩ := h.st a ha
    exact ⟨b, by rw [e.xcQ (h.oT ha) (nw _ (by simp [si_1, si_2, sl_1, sl_2, sl_3, ai_1, ai_2, ai_3, ai_4, al_1, al_2, al_3, al_4, cp_1, cp_2, cp_3, cp_4]))]; exact b1, b2.ext e b3, Nat.lt_of_lt_of_le b3 e.sz.1⟩
/-- an array of a frame or a thing is one -/
theorem VS.arr (h : (VS cs lim dE A r1 r2 NF g4 k4) fa ta nf nt M w) (ha : FsO fa nf a ∨ FsO ta nt a) : ∃ b, cQ M a 0 = some b ∧ aIk (cs 0) M b ∧ (∀ j, aF M b j = w.1 a j) := by
  obtain ⟨b, b1, b2⟩ := h.ag.1 a ha
  refine ⟨b, b1, ?_, b2⟩
  rcases ha with g | g
  · obtain ⟨b', e1, e2, -⟩ := (h.hs.fr g).sl
    rw [b1] at e1; cases e1; exact e2
  · obtain ⟨b', e1, e2, -⟩ := (h.hs.th g).nm
    rw [b1] at e1; cases e1; exact e2
theorem Ag.int {Fs Ts : Nat → Prop} {x : Int32} (h : Ag A Fs Ts M w) (ar : ∀ a, Fs a ∨ Ts a → ∀ b, cQ M a 0 = some b → aIk (cs 0) M b) (ho : cOk ci M a) (hk : k < (ckd ci).length) (h2 : (ckd ci).getD k 0 ≠ 2) : Ag A Fs Ts (cP ci M a k (.int x)) (vpi w a k x) := by
  refine ⟨fun c hc => ?_, fun c j hc => ⟨?_, ?_⟩⟩
  · obtain ⟨b, b1, b2⟩ := h.1 c hc
    refine ⟨b, by rw [cQ_int ho h2]; exact b1, fun j => ?_⟩
    have : (cP ci M a k (.int x)).1 b = M.1 b := by
      unfold cP
      exact gup_n (fun q => by subst q; exact ho.notI (ar c hc _ b1))
    rw [aF_cong this]
    exact b2 j
  · rw [cI_at ho hk, (h.2 c j hc).1]; rfl
  · rw [cQ_int ho h2, (h.2 c j hc).2]; rfl
theorem Ag.rf {Fs Ts : Nat → Prop} {r : Option Nat} (h : Ag A Fs Ts M w) (ar : ∀ a, Fs a ∨ Ts a → ∀ b, cQ M a 0 = some b → aIk (cs 0) M b) (ho : cOk ci M a) (hk : k < (ckd ci).length) (h2 : (ckd ci).getD k 0 = 2) (h0 : k ≠ 0) : Ag A Fs Ts (cP ci M a k (va_rf r)) (vpq w a k r) := by
  refine ⟨fun c hc => ?_, fun c j hc => ⟨?_, ?_⟩⟩
  · obtain ⟨b, b1, b2⟩ := h.1 c hc
    refine ⟨b, by rw [cQ_put_ne (Or.inr (Ne.symm h0))]; exact b1, fun j => ?_⟩
    have : (cP ci M a k (va_rf r)).1 b = M.1 b := by
      unfold cP
      exact gup_n (fun q => by subst q; exact ho.notI (ar c hc _ b1))
    rw [aF_cong this]
    exact b2 j
  · rw [cI_ref ho h2, (h.2 c j hc).1]; rfl
  · rw [cQ_at ho hk, (h.2 c j hc).2]; rfl
theorem VS.ar (h : (VS cs lim dE A r1 r2 NF g4 k4) fa ta nf nt M w) : ∀ a, FsO fa nf a ∨ FsO ta nt a → ∀ b, cQ M a 0 = some b → aIk (cs 0) M b := fun a ha b hb => by
  obtain ⟨b', e1, e2, -⟩ := h.arr ha
  rw [hb] at e1; cases e1; exact e2
/-- an int is put, where the frame's height or the store's counts are in order -/
theorem VS.putI {x : Int32} (h : (VS cs lim dE A r1 r2 NF g4 k4) fa ta nf nt M w) (ho : cOk ci M a) (hk : k < (ckd ci).length) (h2 : (ckd ci).getD k 0 ≠ 2) (h13 : ci ≠ 13) (ht : ∀ kf kt, HTL cs dE A (FsO fa nf) (FsO ta nt) nf nt kf kt g4 k4 M → HTL cs dE A (FsO fa nf) (FsO ta nt) nf nt kf kt g4 k4 (cP ci M a k (.int x))) : (VS cs lim dE A r1 r2 NF g4 k4) fa ta nf nt (cP ci M a k (.int x)) (vpi w a k x) := by
  have e : Ext [(ci, k)] [] false M (cP ci M a k (.int x)) := (Ext.rf h.lay.mok).putI k ho (by simp [si_1, si_2, sl_1, sl_2, sl_3, ai_1, ai_2, ai_3, ai_4, al_1, al_2, al_3, al_4, cp_1, cp_2, cp_3, cp_4]) h2
  have n10 : ¬ (ci = 10 ∧ k = 0) := fun ⟨q1, q2⟩ => h2 (by rw [q1, q2]; rfl)
  have n11 : ¬ (ci = 11 ∧ k = 0) := fun ⟨q1, q2⟩ => h2 (by rw [q1, q2]; rfl)
  refine h.keep rfl e ?_ rfl ht (h.ag.int h.ar ho hk h2)
  simp only [List.all_cons, List.all_nil, Bool.and_true, Bool.and_eq_true, bne_iff_ne, ne_eq, Prod.mk.injEq]
  exact ⟨⟨⟨fun q => h13 q.1, fun q => h13 q.1⟩, n10⟩, n11⟩
theorem VS.putN {x : Int32} (h : (VS cs lim dE A r1 r2 NF g4 k4) fa ta nf nt M w) (ho : cOk ci M a) (hk : k < (ckd ci).length) (h2 : (ckd ci).getD k 0 ≠ 2) (h13 : ci ≠ 13) (hW : ([(ci, k)] : List (Nat × Nat)).all (fun w => !BAD.contains w && w != (2, 0)) = true) : (VS cs lim dE A r1 r2 NF g4 k4) fa ta nf nt (cP ci M a k (.int x)) (vpi w a k x) :=
  h.putI ho hk h2 h13 (fun _ _ z => z.ext ((Ext.rf (W := [(ci, k)]) (V := []) (al := false) h.lay.mok).putI k ho (by simp [si_1, si_2, sl_1, sl_2, sl_3, ai_1, ai_2, ai_3, ai_4, al_1, al_2, al_3, al_4, cp_1, cp_2, cp_3, cp_4]) h2) hW (by decide))
theorem VS.putH {x : Int32} (h : (VS cs lim dE A r1 r2 NF g4 k4) fa ta nf nt M w) (ha : FsO fa nf a) (hx : 10 ≤ x.toInt ∧ x.toInt ≤ 50) : (VS cs lim dE A r1 r2 NF g4 k4) fa ta nf nt (cP 10 M a 1 (.int x)) (vpi w a 1 x) :=
  h.putI (h.oF ha) (by decide) (by decide) (by decide) (fun _ _ z => z.putI (h.oF ha) (Or.inl ⟨rfl, rfl, hx.1, hx.2⟩))
/-- a reference is put -/
theorem VS.putQ {r : Option Nat} (h : (VS cs lim dE A r1 r2 NF g4 k4) fa ta nf nt M w) (ho : cOk ci M a) (hf : (ci = 10 ∧ k = 3 ∧ ∀ z, r = some z → FsO ta nt z) ∨ (((ci = 10 ∧ k = 4) ∨ (ci = 11 ∧ k = 4) ∨ (ci = 11 ∧ k = 5) ∨ (ci = 8 ∧ k = 10) ∨ (ci = 9 ∧ k = 4)) ∧ ∀ z, r = some z → FsO fa nf z)) : (VS cs lim dE A r1 r2 NF g4 k4) fa ta nf nt (cP ci M a k (va_rf r)) (vpq w a k r) := by
  have hk : ((k < (ckd ci).length ∧ (ckd ci).getD k 0 = 2) ∧ OWN.contains (ci, k) = false ∧ k ≠ 0) ∧ ([(ci, k)] : List (Nat × Nat)).all (fun x => x != (13, 0) && x != (13, 1) && x != (10, 0) && x != (11, 0)) = true := by rcases hf with ⟨rfl, rfl, -⟩ | ⟨⟨rfl, rfl⟩ | ⟨rfl, rfl⟩ | ⟨rfl, rfl⟩ | ⟨rfl, rfl⟩ | ⟨rfl, rfl⟩, -⟩ <;> decide
  have e : Ext [(ci, k)] [] false M (cP ci M a k (va_rf r)) := (Ext.rf h.lay.mok).putQ k ho (by simp [si_1, si_2, sl_1, sl_2, sl_3, ai_1, ai_2, ai_3, ai_4, al_1, al_2, al_3, al_4, cp_1, cp_2, cp_3, cp_4]) hk.1.1.2 hk.1.2.1
  exact h.keep rfl e hk.2 rfl (fun _ _ z => z.putQ ho hf) (h.ag.rf h.ar ho hk.1.1.1 hk.1.1.2 hk.1.2.2)
/-- what an array holds -/
theorem VS.putA {f : Nat → Int32} (h : (VS cs lim dE A r1 r2 NF g4 k4) fa ta nf nt M w) (ha : FsO fa nf a ∨ FsO ta nt a) (hq : cQ M a 0 = some b) : (VS cs lim dE A r1 r2 NF g4 k4) fa ta nf nt (gup M b (1, .inl (cs 0, aL M b, .inl f))) (vpS w a f) := by
  have hb : aIk (cs 0) M b := h.ar a ha b hq
  have hci : ∃ ci, (ci = 10 ∨ ci = 11) ∧ cOk ci M a ∧ Sole M ci 0 a b := by
    rcases ha with g | g
    · obtain ⟨b', e1, e2, -⟩ := h.sf a g
      rw [hq] at e1; cases e1
      exact ⟨10, Or.inl rfl, h.oF g, e2⟩
    · obtain ⟨b', e1, e2, -⟩ := h.st a g
      rw [hq] at e1; cases e1
      exact ⟨11, Or.inr rfl, h.oT g, e2⟩
  obtain ⟨ci, hci, ho, so⟩ := hci
  have e : Ext [] [(10, 0), (11, 0)] false M (gup M b (1, .inl (cs 0, aL M b, .inl f))) := Ext.arrI h.lay.mok (Ext.rf h.lay.mok) hb (Or.inr (fun z => z a ci 0 (by rcases hci with rfl | rfl <;> decide) (by rcases hci with rfl | rfl <;> decide) ho hq))
  have nb : ∀ c, (FsO fa nf c ∨ FsO ta nt c ∨ c = A.ma ∨ c = A.st) → c ≠ b := fun c hc q => by
    obtain ⟨cj, hj⟩ := h.kn hc
    subst q
    exact hj.notI hb
  refine h.keep rfl e (by decide) (by decide) (fun _ _ z => z.ext e (by decide) (by decide)) ⟨fun c hc => ?_, fun c j hc => ?_⟩
  · obtain ⟨b', b1, b2⟩ := h.ag.1 c hc
    refine ⟨b', by rw [cQ_ne (nb c (hc.elim Or.inl (fun z => Or.inr (Or.inl z))))]; exact b1, fun j => ?_⟩
    rw [vpS_s]
    by_cases q : c = a
    · subst q
      rw [hq] at b1; cases b1
      rw [if_pos rfl, (aI_of gup_s).2]
    · rw [if_neg q]
      have hne : b' ≠ b := fun z => by
        subst z
        have : ∃ cj, (cj, 0) ∈ OWN ∧ cOk cj M c := by
          rcases hc with g | g
          · exact ⟨10, by decide, h.oF g⟩
          · exact ⟨11, by decide, h.oT g⟩
        obtain ⟨cj, o1, o2⟩ := this
        exact q (so c cj 0 o1 o2 b1).2.2
      rw [aF_cong (gup_n hne)]
      exact b2 j
  · rw [cI_ne (nb c hc), cQ_ne (nb c hc)]
    exact h.ag.2 c j hc
theorem VS.eq (h : (VS cs lim dE A r1 r2 NF g4 k4) fa ta nf nt M w) (e : w = w') : (VS cs lim dE A r1 r2 NF g4 k4) fa ta nf nt M w' := e ▸ h
theorem vpS_up {f : Nat → Int32} {j : Nat} {x : Int32} (hf : ∀ i, f i = w.1 a i) : vpS w a (upd f j x) = vps w a j x := by
  unfold vpS vps
  refine Prod.ext ?_ rfl
  funext c i
  unfold upd
  show (if c = a then (if i = j then x else f i) else w.1 c i) = (if c = a ∧ i = j then x else w.1 c i)
  by_cases q : c = a
  · subst q
    by_cases z : i = j
    · rw [if_pos rfl, if_pos z, if_pos ⟨rfl, z⟩]
    · rw [if_pos rfl, if_neg z, if_neg (fun y => z y.2)]; exact hf i
  · rw [if_neg q, if_neg (fun y => q y.1)]
end
end
section
/-! pure rows, the class: what is done to frames and things, told of what they hold -/
theorem nC {n : Nat} (h : n < 100000) : (nI n).toNatClampNeg = n := nI_clamp (Nat.lt_trans h (by decide))
theorem nT {n : Nat} (h : n < 100000) : (nI n).toInt = n := nI_toI (Nat.lt_trans h (by decide))
theorem nP {n : Nat} : nI (n + 1) - 1 = nI n := by
  rw [nI_succ]
  apply Int32.toBitVec_inj.mp
  simp only [Int32.toBitVec_sub, Int32.toBitVec_add]
  bv_omega
theorem nI_inj {m n : Nat} (hm : m < 100000) (hn : n < 100000) (h : nI m = nI n) : m = n := by
  have := congrArg Int32.toInt h
  rw [nT hm, nT hn] at this
  omega
theorem nI_ofT {x : Int32} {n : Nat} (h : x.toInt = n) (hn : n < 100000) : x = nI n := Int32.toInt_inj.mp (by rw [h, nT hn])
section
variable {cs : Nat → ClassId} {lim dE : Nat × Nat} {A : Ad} {r1 r2 NF : Nat} {g4 : Nat → Int32} {k4 : Nat} {fa ta : Nat → Nat} {nf nt : Nat} {M M' : gMem} {w w' : Vw} {a b c t n ci k H K : Nat}
theorem VS.push (h : (VS cs lim dE A r1 r2 NF g4 k4) fa ta nf nt M w) (ha : FsO fa nf a) (hh : w.2.1 a 1 = nI H) (h10 : 10 ≤ H) (h50 : H < 50) (v : Int32) : (VS cs lim dE A r1 r2 NF g4 k4) fa ta nf nt (F_Fr_push cs M a v) (vpi (vps w a H v) a 1 (nI (H + 1))) := by
  obtain ⟨b, b1, b2, b3⟩ := h.arr (Or.inl ha)
  have bl : aL M b = 50 := by
    obtain ⟨b', e1, -, e3⟩ := (h.hs.fr ha).sl
    rw [b1] at e1; cases e1; exact e3
  have e1 : cI M a 1 = nI H := by rw [h.I (Or.inl ha)]; exact hh
  have hc : (nI H).toNatClampNeg = H := nC (by omega)
  have hl : ¬ nI 50 ≤ nI H := nI_ge h50 (by decide)
  unfold F_Fr_push
  rw [b1]
  simp only [Option.getD_some, bl, e1, if_neg hl, hc]
  have h2 := (h.putA (f := upd (aF M b) H v) (Or.inl ha) b1).eq (vpS_up b3)
  have hne : a ≠ b := fun q => by subst q; exact (h.oF ha).notI b2
  have e2 : cI (aPi (cs 0) M b H v) a 1 = nI H := by rw [show aPi (cs 0) M b H v = gup M b (1, .inl (cs 0, aL M b, .inl (upd (aF M b) H v))) from rfl, cI_ne hne]; exact e1
  rw [e2, ← nI_succ]
  exact VS.putH h2 ha (by rw [nT (by omega)]; omega)
theorem VS.pop (h : (VS cs lim dE A r1 r2 NF g4 k4) fa ta nf nt M w) (ha : FsO fa nf a) (hh : w.2.1 a 1 = nI (H + 1)) (h10 : 10 ≤ H) (h50 : H < 50) : (F_Fr_pop cs M a).1 = w.1 a H ∧ (VS cs lim dE A r1 r2 NF g4 k4) fa ta nf nt (F_Fr_pop cs M a).2 (vpi w a 1 (nI H)) := by
  have e1 : cI M a 1 = nI (H + 1) := by rw [h.I (Or.inl ha)]; exact hh
  have hl : (10 : Int32) < nI (H + 1) := (nI_lt (a := 10) (b := H + 1) (by omega) (Nat.lt_trans (show H + 1 < 100 by omega) (by decide)) : nI 10 < nI (H + 1))
  unfold F_Fr_pop
  simp only [e1, if_pos hl, nP]
  have h2 := h.putH ha (x := nI H) (by rw [nT (by omega)]; omega)
  refine ⟨?_, h2⟩
  obtain ⟨b, b1, b2, b3⟩ := h2.arr (Or.inl ha)
  have e2 : cI (cP 10 M a 1 (.int (nI H))) a 1 = nI H := cI_put (h.oF ha) (by decide)
  rw [b1, e2, nC (by omega)]
  simp only [Option.getD_some]
  rw [b3]
  rfl
theorem VS.give {x v : Int32} (h : (VS cs lim dE A r1 r2 NF g4 k4) fa ta nf nt M w) (ha : FsO fa nf a) (hx : x = nI K) (hK : K < 10) : (VS cs lim dE A r1 r2 NF g4 k4) fa ta nf nt (F_Fr_give cs M a x v) (vps w a K v) := by
  obtain ⟨b, b1, b2, b3⟩ := h.arr (Or.inl ha)
  have n1 : ¬ x < 0 := by rw [hx]; exact nI_pos (Nat.lt_trans (show K < 100 by omega) (by decide))
  have n2 : ¬ 10 ≤ x := by rw [hx]; exact (nI_ge (a := K) (b := 10) hK (by decide) : ¬ nI 10 ≤ nI K)
  unfold F_Fr_give
  rw [if_neg n1, if_neg n2, b1, hx, nC (by omega)]
  simp only [Option.getD_some]
  exact (h.putA (f := upd (aF M b) K v) (Or.inl ha) b1).eq (vpS_up b3)
theorem VS.value {x : Int32} (h : (VS cs lim dE A r1 r2 NF g4 k4) fa ta nf nt M w) (ha : FsO fa nf a) (hx : x = nI K) (hK : K < 10) : F_Fr_valueOf cs M a x = w.1 a K := by
  obtain ⟨b, b1, b2, b3⟩ := h.arr (Or.inl ha)
  have n1 : ¬ x < 0 := by rw [hx]; exact nI_pos (Nat.lt_trans (show K < 100 by omega) (by decide))
  have n2 : ¬ 10 ≤ x := by rw [hx]; exact (nI_ge (a := K) (b := 10) hK (by decide) : ¬ nI 10 ≤ nI K)
  unfold F_Fr_valueOf
  rw [if_neg n1, if_neg n2, b1, hx, nC (by omega)]
  simp only [Option.getD_some]
  exact b3 K
theorem VS.tgive {x v : Int32} (h : (VS cs lim dE A r1 r2 NF g4 k4) fa ta nf nt M w) (ha : FsO ta nt t) (hx : x = nI K) (hK : K < 10) : (VS cs lim dE A r1 r2 NF g4 k4) fa ta nf nt (F_Th_give cs M t x v) (vps w t K v) := by
  obtain ⟨b, b1, b2, b3⟩ := h.arr (Or.inr ha)
  have n1 : ¬ x < 0 := by rw [hx]; exact nI_pos (Nat.lt_trans (show K < 100 by omega) (by decide))
  have n2 : ¬ 10 ≤ x := by rw [hx]; exact (nI_ge (a := K) (b := 10) hK (by decide) : ¬ nI 10 ≤ nI K)
  unfold F_Th_give
  rw [if_neg n1, if_neg n2, b1, hx, nC (by omega)]
  simp only [Option.getD_some]
  exact (h.putA (f := upd (aF M b) K v) (Or.inr ha) b1).eq (vpS_up b3)
theorem VS.tgive' {v : Int32} (h : (VS cs lim dE A r1 r2 NF g4 k4) fa ta nf nt M w) : (VS cs lim dE A r1 r2 NF g4 k4) fa ta nf nt (F_Th_give cs M t (-1) v) w := by
  unfold F_Th_give
  rw [if_pos (by decide)]
  exact h
theorem cpy10 {f g : Nat → Int32} : va_cpy f g 0 0 10 = fun j => if j < 10 then f j else g j := by
  funext j
  unfold va_cpy
  by_cases q : j < 10
  · rw [if_pos ⟨Nat.zero_le _, by omega⟩, if_pos q, Nat.zero_add, Nat.sub_zero]
  · rw [if_neg (by omega), if_neg q]
theorem VS.keepN (h : (VS cs lim dE A r1 r2 NF g4 k4) fa ta nf nt M w) (ha : FsO fa nf a) (ht : FsO ta nt t) : (VS cs lim dE A r1 r2 NF g4 k4) fa ta nf nt (F_Fr_keepNames cs M a (some t)) (vpS w t (fun j => if j < 10 then w.1 a j else w.1 t j)) := by
  obtain ⟨b, b1, b2, b3⟩ := h.arr (Or.inl ha)
  obtain ⟨c, c1, c2, c3⟩ := h.arr (Or.inr ht)
  have z0 : (0 : Int32).toNatClampNeg = 0 := by decide
  have z10 : (10 : Int32).toNatClampNeg = 10 := by decide
  unfold F_Fr_keepNames
  simp only [Option.getD_some]
  rw [b1, c1]
  simp only [Option.getD_some, z0, z10]
  have e : va_cpy (aF M b) (aF M c) 0 0 10 = fun j => if j < 10 then w.1 a j else w.1 t j := by
    rw [cpy10]
    funext j
    rw [b3, c3]
  have h1 := h.putA (f := va_cpy (aF M b) (aF M c) 0 0 10) (Or.inr ht) c1
  rw [e] at h1
  have e2 : aCp (cs 0) M b c 0 0 10 = gup M c (1, .inl (cs 0, aL M c, .inl (fun j => if j < 10 then w.1 a j else w.1 t j))) := by rw [← e]; rfl
  rw [e2]
  exact h1
/-- a frame begins anew, with the names of a thing -/
theorem VS.opens (h : (VS cs lim dE A r1 r2 NF g4 k4) fa ta nf nt M w) (ha : FsO fa nf a) (ht : FsO ta nt t) (x : Int32) : (VS cs lim dE A r1 r2 NF g4 k4) fa ta nf nt (F_Fr_open cs M a (some t) x) (vpq (vpi (vpi (vpS w a (fun j => if j < 10 then w.1 t j else w.1 a j)) a 2 x) a 1 (nI 10)) a 3 none) := by
  obtain ⟨b, b1, b2, b3⟩ := h.arr (Or.inl ha)
  obtain ⟨c, c1, c2, c3⟩ := h.arr (Or.inr ht)
  have z0 : (0 : Int32).toNatClampNeg = 0 := by decide
  have z10 : (10 : Int32).toNatClampNeg = 10 := by decide
  have hn : ¬ (some t : Option Nat) = none := by simp [si_1, si_2, sl_1, sl_2, sl_3, ai_1, ai_2, ai_3, ai_4, al_1, al_2, al_3, al_4, cp_1, cp_2, cp_3, cp_4]
  unfold F_Fr_open
  simp only [if_neg hn, Option.getD_some]
  rw [b1, c1]
  simp only [Option.getD_some, z0, z10]
  have e : va_cpy (aF M c) (aF M b) 0 0 10 = fun j => if j < 10 then w.1 t j else w.1 a j := by
    rw [cpy10]
    funext j
    rw [b3, c3]
  have h1 := h.putA (f := va_cpy (aF M c) (aF M b) 0 0 10) (Or.inl ha) b1
  rw [e] at h1
  have e2 : aCp (cs 0) M c b 0 0 10 = gup M b (1, .inl (cs 0, aL M b, .inl (fun j => if j < 10 then w.1 t j else w.1 a j))) := by rw [← e]; rfl
  rw [e2]
  have h2 := h1.putN (ci := 10) (k := 2) (x := x) (h1.oF ha) (by decide) (by decide) (by decide) (by decide)
  have h3 := h2.putH ha (x := nI 10) (by decide)
  exact h3.putQ (ci := 10) (k := 3) (r := none) (h3.oF ha) (Or.inl ⟨rfl, rfl, fun z hz => by cases hz⟩)
theorem VS.opens0 (h : (VS cs lim dE A r1 r2 NF g4 k4) fa ta nf nt M w) (ha : FsO fa nf a) (x : Int32) : (VS cs lim dE A r1 r2 NF g4 k4) fa ta nf nt (F_Fr_open cs M a none x) (vpq (vpi (vpi w a 2 x) a 1 (nI 10)) a 3 none) := by
  unfold F_Fr_open
  simp only [if_true]
  have h2 := h.putN (ci := 10) (k := 2) (x := x) (h.oF ha) (by decide) (by decide) (by decide) (by decide)
  have h3 := h2.putH ha (x := nI 10) (by decide)
  exact h3.putQ (ci := 10) (k := 3) (r := none) (h3.oF ha) (Or.inl ⟨rfl, rfl, fun z hz => by cases hz⟩)
theorem VS.make (h : (VS cs lim dE A r1 r2 NF g4 k4) fa ta nf nt M w) (ht : FsO ta nt t) (x : Int32) : (VS cs lim dE A r1 r2 NF g4 k4) fa ta nf nt (F_Th_make cs M t x) (vpq (vpq (vpi (vpi w t 1 x) t 2 0) t 4 none) t 5 none) := by
  have h1 := h.putN (ci := 11) (k := 1) (x := x) (h.oT ht) (by decide) (by decide) (by decide) (by decide)
  have h2 := h1.putN (ci := 11) (k := 2) (x := 0) (h1.oT ht) (by decide) (by decide) (by decide) (by decide)
  have h3 := h2.putQ (ci := 11) (k := 4) (r := none) (h2.oT ht) (Or.inr ⟨by simp [si_1, si_2, sl_1, sl_2, sl_3, ai_1, ai_2, ai_3, ai_4, al_1, al_2, al_3, al_4, cp_1, cp_2, cp_3, cp_4], fun z hz => by cases hz⟩)
  exact h3.putQ (ci := 11) (k := 5) (r := none) (h3.oT ht) (Or.inr ⟨by simp [si_1, si_2, sl_1, sl_2, sl_3, ai_1, ai_2, ai_3, ai_4, al_1, al_2, al_3, al_4, cp_1, cp_2, cp_3, cp_4], fun z hz => by cases hz⟩)
theorem VS.hold {u l : Option Nat} (h : (VS cs lim dE A r1 r2 NF g4 k4) fa ta nf nt M w) (ht : FsO ta nt t) (hu : ∀ z, u = some z → FsO fa nf z) (hl : ∀ z, l = some z → FsO fa nf z) (x : Int32) : (VS cs lim dE A r1 r2 NF g4 k4) fa ta nf nt (F_Th_hold cs M t u l x) (vpi (vpq (vpq (vpi (vpi w t 2 1) t 3 0) t 4 u) t 5 l) t 6 x) := by
  have h1 := h.putN (ci := 11) (k := 2) (x := 1) (h.oT ht) (by decide) (by decide) (by decide) (by decide)
  have h2 := h1.putN (ci := 11) (k := 3) (x := 0) (h1.oT ht) (by decide) (by decide) (by decide) (by decide)
  have h3 := h2.putQ (ci := 11) (k := 4) (r := u) (h2.oT ht) (Or.inr ⟨by simp [si_1, si_2, sl_1, sl_2, sl_3, ai_1, ai_2, ai_3, ai_4, al_1, al_2, al_3, al_4, cp_1, cp_2, cp_3, cp_4], hu⟩)
  have h4 := h3.putQ (ci := 11) (k := 5) (r := l) (h3.oT ht) (Or.inr ⟨by simp [si_1, si_2, sl_1, sl_2, sl_3, ai_1, ai_2, ai_3, ai_4, al_1, al_2, al_3, al_4, cp_1, cp_2, cp_3, cp_4], hl⟩)
  exact h4.putN (ci := 11) (k := 6) (x := x) (h4.oT ht) (by decide) (by decide) (by decide) (by decide)
theorem VS.back (h : (VS cs lim dE A r1 r2 NF g4 k4) fa ta nf nt M w) (ha : FsO fa nf a) : (VS cs lim dE A r1 r2 NF g4 k4) fa ta nf nt (F_St_giveBack cs M A.st (some a)) (vpq (vpq (vpq w a 4 (w.2.2 A.st 4)) a 3 none) A.st 4 (some a)) := by
  unfold F_St_giveBack
  simp only [Option.getD_some]
  rw [h.Q (Or.inr (Or.inr (Or.inr rfl))) 4]
  have hf : ∀ z, w.2.2 A.st 4 = some z → FsO fa nf z := fun z hz => h.hs.free z (by rw [h.Q (Or.inr (Or.inr (Or.inr rfl))) 4]; exact hz)
  have h1 := h.putQ (ci := 10) (k := 4) (r := w.2.2 A.st 4) (h.oF ha) (Or.inr ⟨by simp [si_1, si_2, sl_1, sl_2, sl_3, ai_1, ai_2, ai_3, ai_4, al_1, al_2, al_3, al_4, cp_1, cp_2, cp_3, cp_4], hf⟩)
  have h2 := h1.putQ (ci := 10) (k := 3) (r := none) (h1.oF ha) (Or.inl ⟨rfl, rfl, fun z hz => by cases hz⟩)
  exact h2.putQ (ci := 9) (k := 4) (r := some a) h2.oS (Or.inr ⟨by simp [si_1, si_2, sl_1, sl_2, sl_3, ai_1, ai_2, ai_3, ai_4, al_1, al_2, al_3, al_4, cp_1, cp_2, cp_3, cp_4], fun z hz => by cases hz; exact ha⟩)
/-- what the code's rows hold -/
theorem VS.cfield {x1 x2 : Int32} {i : Nat} (h : (VS cs lim dE A r1 r2 NF g4 k4) fa ta nf nt M w) (hi : (x1 * 5 + x2).toInt = i) : F_Co_field cs M A.co x1 x2 = g4 i := by
  obtain ⟨-, e⟩ := ce_at (lim := lim) h.hs.c4 (x1 * 5 + x2)
  unfold F_Co_field
  rw [h.lay.co_1.2]
  simp only [Option.getD_some, mbind_eq]
  rw [e, hi, if_neg (by omega), Int.toNat_natCast]
theorem mul5 {r j : Nat} (hr : r ≤ 2000) (hj : j < 5) : (nI r * 5 + nI j).toInt = (r * 5 + j : Nat) := by
  have h1 := nT (n := r) (by omega)
  have h2 := nT (n := j) (by omega)
  ((try (simp only [vp_in, Int32.toNatClampNeg, Int32.lt_iff_toInt_lt, Int32.le_iff_toInt_le, ← Int32.toInt_inj, Int32.toInt_add, Int32.toInt_sub, Int32.toInt_mul, Int32.reduceToInt, i32_neg1, Nat.reducePow, Int.reducePow, ne_eq, ge_iff_le, gt_iff_lt] at *)) <;> (first | omega | ((simp (disch := omega) only [bm32] at *) <;> omega)))
theorem VS.fld {r j : Nat} (h : (VS cs lim dE A r1 r2 NF g4 k4) fa ta nf nt M w) (hr : r ≤ 2000) (hj : j < 5) {x : Int32} (hx : x = nI j) : F_Co_field cs M A.co (nI r) x = cFd g4 r j := by
  subst hx
  exact h.cfield (mul5 hr hj)
theorem VS.opr {r : Nat} (h : (VS cs lim dE A r1 r2 NF g4 k4) fa ta nf nt M w) (hr : r ≤ 2000) : F_Co_operation cs M A.co (nI r) = g4 (r * 5) := by
  obtain ⟨-, e⟩ := ce_at (lim := lim) h.hs.c4 (nI r * 5)
  have h1 : (nI r * 5).toInt = (r * 5 : Nat) := by
    have := nT (n := r) (by omega)
    ((try (simp only [vp_in, Int32.toNatClampNeg, Int32.lt_iff_toInt_lt, Int32.le_iff_toInt_le, ← Int32.toInt_inj, Int32.toInt_add, Int32.toInt_sub, Int32.toInt_mul, Int32.reduceToInt, i32_neg1, Nat.reducePow, Int.reducePow, ne_eq, ge_iff_le, gt_iff_lt] at *)) <;> (first | omega | ((simp (disch := omega) only [bm32] at *) <;> omega)))
  unfold F_Co_operation
  rw [h.lay.co_1.2]
  simp only [Option.getD_some, mbind_eq]
  rw [e, h1, if_neg (by omega), Int.toNat_natCast]
end
end
