-- pure rows: HG
section
/-! pure rows, the class: lists whose elements are known by their place -/
/-- the array of a list: its elements are of P -/
def ArJ (cs : Nat → ClassId) (M : gMem) (a b : Nat) (P : Nat → Nat → Prop) (sz cap : Nat) : Prop := (aQk (cs 5) M b) ∧ (aL M b = cap) ∧ (sz ≤ cap) ∧ (Sole M 13 0 a b) ∧ (b < M.2.1) ∧ (∀ i, i < sz → ∃ y, aQ M b i = some y ∧ P i y) ∧ (∀ i, sz ≤ i → aQ M b i = none)
theorem ArJ.ok {cs : Nat → ClassId} {M : gMem} {a b : Nat} {P : Nat → Nat → Prop} {sz cap : Nat} (self : ArJ cs M a b P sz cap) : aQk (cs 5) M b := self.1
theorem ArJ.len {cs : Nat → ClassId} {M : gMem} {a b : Nat} {P : Nat → Nat → Prop} {sz cap : Nat} (self : ArJ cs M a b P sz cap) : aL M b = cap := self.2.1
theorem ArJ.le {cs : Nat → ClassId} {M : gMem} {a b : Nat} {P : Nat → Nat → Prop} {sz cap : Nat} (self : ArJ cs M a b P sz cap) : sz ≤ cap := self.2.2.1
theorem ArJ.sole {cs : Nat → ClassId} {M : gMem} {a b : Nat} {P : Nat → Nat → Prop} {sz cap : Nat} (self : ArJ cs M a b P sz cap) : Sole M 13 0 a b := self.2.2.2.1
theorem ArJ.lt {cs : Nat → ClassId} {M : gMem} {a b : Nat} {P : Nat → Nat → Prop} {sz cap : Nat} (self : ArJ cs M a b P sz cap) : b < M.2.1 := self.2.2.2.2.1
theorem ArJ.el {cs : Nat → ClassId} {M : gMem} {a b : Nat} {P : Nat → Nat → Prop} {sz cap : Nat} (self : ArJ cs M a b P sz cap) : ∀ i, i < sz → ∃ y, aQ M b i = some y ∧ P i y := self.2.2.2.2.2.1
theorem ArJ.no {cs : Nat → ClassId} {M : gMem} {a b : Nat} {P : Nat → Nat → Prop} {sz cap : Nat} (self : ArJ cs M a b P sz cap) : ∀ i, sz ≤ i → aQ M b i = none := self.2.2.2.2.2.2
def LiJ (cs : Nat → ClassId) (dE : Nat × Nat) (M : gMem) (a : Nat) (P : Nat → Nat → Prop) (sz n : Nat) : Prop := (cOk 13 M a) ∧ ((cI M a 1).toInt = sz) ∧ ((n = 0 ∧ sz = 0 ∧ cQ M a 0 = some dE.1) ∨ ∃ n' b, n = n' + 1 ∧ cQ M a 0 = some b ∧ ArJ cs M a b P sz (gr n'))
theorem LiJ.ok {cs : Nat → ClassId} {dE : Nat × Nat} {M : gMem} {a : Nat} {P : Nat → Nat → Prop} {sz n : Nat} (self : LiJ cs dE M a P sz n) : cOk 13 M a := self.1
theorem LiJ.siz {cs : Nat → ClassId} {dE : Nat × Nat} {M : gMem} {a : Nat} {P : Nat → Nat → Prop} {sz n : Nat} (self : LiJ cs dE M a P sz n) : (cI M a 1).toInt = sz := self.2.1
theorem LiJ.ref {cs : Nat → ClassId} {dE : Nat × Nat} {M : gMem} {a : Nat} {P : Nat → Nat → Prop} {sz n : Nat} (self : LiJ cs dE M a P sz n) : (n = 0 ∧ sz = 0 ∧ cQ M a 0 = some dE.1) ∨ ∃ n' b, n = n' + 1 ∧ cQ M a 0 = some b ∧ ArJ cs M a b P sz (gr n') := self.2.2
/-- what adding leaves -/
def AdJ (cs : Nat → ClassId) (dE : Nat × Nat) (M M' : gMem) (a : Nat) (P : Nat → Nat → Prop) (sz n n' : Nat) : Prop := (LiJ cs dE M' a P (sz + 1) n') ∧ ((n' = n ∧ M'.2 = M.2) ∨ (n' = n + 1 ∧ M'.2 = (M.2.1 + 1, M.2.2 + gr n) ∧ (n = 0 ∨ ∃ m, n = m + 1 ∧ sz = gr m))) ∧ (∀ c, c ≠ a → cQ M a 0 ≠ some c → c < M.2.1 → M'.1 c = M.1 c)
theorem AdJ.li {cs : Nat → ClassId} {dE : Nat × Nat} {M M' : gMem} {a : Nat} {P : Nat → Nat → Prop} {sz n n' : Nat} (self : AdJ cs dE M M' a P sz n n') : LiJ cs dE M' a P (sz + 1) n' := self.1
theorem AdJ.siz {cs : Nat → ClassId} {dE : Nat × Nat} {M M' : gMem} {a : Nat} {P : Nat → Nat → Prop} {sz n n' : Nat} (self : AdJ cs dE M M' a P sz n n') : (n' = n ∧ M'.2 = M.2) ∨ (n' = n + 1 ∧ M'.2 = (M.2.1 + 1, M.2.2 + gr n) ∧ (n = 0 ∨ ∃ m, n = m + 1 ∧ sz = gr m)) := self.2.1
theorem AdJ.fr {cs : Nat → ClassId} {dE : Nat × Nat} {M M' : gMem} {a : Nat} {P : Nat → Nat → Prop} {sz n n' : Nat} (self : AdJ cs dE M M' a P sz n n') : ∀ c, c ≠ a → cQ M a 0 ≠ some c → c < M.2.1 → M'.1 c = M.1 c := self.2.2
section
variable {cs : Nat → ClassId} {lim dE : Nat × Nat} {P : Nat → Nat → Prop} {M M' : gMem} {a b y sz n cap : Nat}
theorem ArJ.ext {W V : List (Nat × Nat)} {al : Bool} (h : ArJ cs M a b P sz cap) (e : Ext W V al M M') (hV : V.contains (13, 0) = false) : ArJ cs M' a b P sz cap := by
  have q := e.xaQ h.ok (h.sole.notV hV)
  exact ⟨(e.aR h.ok).1, (e.aR h.ok).2.trans h.len, h.le, h.sole.ext e h.lt, Nat.lt_of_lt_of_le h.lt e.sz.1, fun i hi => by rw [q]; exact h.el i hi, fun i hi => by rw [q]; exact h.no i hi⟩
theorem LiJ.ext {W V : List (Nat × Nat)} {al : Bool} (h : LiJ cs dE M a P sz n) (e : Ext W V al M M') (h0 : W.contains (13, 0) = false) (h1 : W.contains (13, 1) = false) (hV : V.contains (13, 0) = false) : LiJ cs dE M' a P sz n := by
  refine ⟨e.xcOk h.ok, by rw [e.xcI h.ok (by simpa [si_1, si_2, sl_1, sl_2, sl_3, ai_1, ai_2, ai_3, ai_4, al_1, al_2, al_3, al_4, cp_1, cp_2, cp_3, cp_4] using h1)]; exact h.siz, ?_⟩
  rw [e.xcQ h.ok (by simpa [si_1, si_2, sl_1, sl_2, sl_3, ai_1, ai_2, ai_3, ai_4, al_1, al_2, al_3, al_4, cp_1, cp_2, cp_3, cp_4] using h0)]
  rcases h.ref with g | ⟨n', b, g1, g2, g3⟩
  · exact Or.inl g
  · exact Or.inr ⟨n', b, g1, g2, g3.ext e hV⟩
theorem alj_get (h : LiJ cs dE M a P sz n) {x : Int32} {i : Nat} (hx : x.toInt = i) (hi : i < sz) (hb : sz ≤ 106710) : S_AL_get cs lim dE M a x ∧ ∃ y, F_AL_get cs dE M a x = some y ∧ P i y := by
  have hs := h.siz
  rcases h.ref with ⟨-, g, -⟩ | ⟨n', b, g1, g2, g3⟩
  · omega
  have hc : x.toNatClampNeg = i := by ((try (simp only [vp_in, Int32.toNatClampNeg, Int32.lt_iff_toInt_lt, Int32.le_iff_toInt_le, ← Int32.toInt_inj, Int32.toInt_add, Int32.toInt_sub, Int32.toInt_mul, Int32.reduceToInt, i32_neg1, Nat.reducePow, Int.reducePow, ne_eq, ge_iff_le, gt_iff_lt] at *)) <;> (first | omega | ((simp (disch := omega) only [bm32] at *) <;> omega)))
  have n0 : ¬ x < 0 := by ((try (simp only [vp_in, Int32.toNatClampNeg, Int32.lt_iff_toInt_lt, Int32.le_iff_toInt_le, ← Int32.toInt_inj, Int32.toInt_add, Int32.toInt_sub, Int32.toInt_mul, Int32.reduceToInt, i32_neg1, Nat.reducePow, Int.reducePow, ne_eq, ge_iff_le, gt_iff_lt] at *)) <;> (first | omega | ((simp (disch := omega) only [bm32] at *) <;> omega)))
  have n1 : x < cI M a 1 := by ((try (simp only [vp_in, Int32.toNatClampNeg, Int32.lt_iff_toInt_lt, Int32.le_iff_toInt_le, ← Int32.toInt_inj, Int32.toInt_add, Int32.toInt_sub, Int32.toInt_mul, Int32.reduceToInt, i32_neg1, Nat.reducePow, Int.reducePow, ne_eq, ge_iff_le, gt_iff_lt] at *)) <;> (first | omega | ((simp (disch := omega) only [bm32] at *) <;> omega)))
  have sc : S_Os_checkIndex cs lim M x (cI M a 1) := by
    unfold S_Os_checkIndex S_Preconditions_checkIndex
    rw [if_neg n0, if_pos n1]
    exact ⟨trivial, trivial⟩
  have hle := g3.le
  have hlen := g3.len
  unfold S_AL_get F_AL_get
  simp only [mbind_eq]
  unfold S_AL_elementData F_AL_elementData
  rw [g2]
  simp only [Option.getD_some, hc]
  obtain ⟨y, y1, y2⟩ := g3.el i hi
  exact ⟨⟨h.ok, sc, h.ok, ⟨h.ok, ⟨trivial, g3.ok⟩, by rw [hlen]; ((try (simp only [vp_in, Int32.toNatClampNeg, Int32.lt_iff_toInt_lt, Int32.le_iff_toInt_le, ← Int32.toInt_inj, Int32.toInt_add, Int32.toInt_sub, Int32.toInt_mul, Int32.reduceToInt, i32_neg1, Nat.reducePow, Int.reducePow, ne_eq, ge_iff_le, gt_iff_lt] at *)) <;> (first | omega | ((simp (disch := omega) only [bm32] at *) <;> omega))), trivial⟩, trivial⟩, y, y1, y2⟩
/-- the last two writes -/
theorem alj_fin {M2 : gMem} {b2 cap : Nat} {x3 : Int32} (hM : MOk M2) (ho : cOk 13 M2 a) (hq : cQ M2 a 0 = some b2) (A2 : ArJ cs M2 a b2 P sz cap) (hlt : sz < cap) (hx : x3.toInt = sz) (hb : sz ≤ 106710) (hy : P sz y) :
    cOk 13 (aPq (cs 5) M2 b2 x3.toNatClampNeg (some y)) a ∧ LiJ cs dE (cP 13 (aPq (cs 5) M2 b2 x3.toNatClampNeg (some y)) a 1 (.int (x3 + 1))) a P (sz + 1) n ∨ ¬ ∃ n', n = n' + 1 ∧ gr n' = cap := by
  by_cases hn : ∃ n', n = n' + 1 ∧ gr n' = cap
  rotate_left
  · exact Or.inr hn
  left
  obtain ⟨n', rfl, hg⟩ := hn
  have hc : x3.toNatClampNeg = sz := by ((try (simp only [vp_in, Int32.toNatClampNeg, Int32.lt_iff_toInt_lt, Int32.le_iff_toInt_le, ← Int32.toInt_inj, Int32.toInt_add, Int32.toInt_sub, Int32.toInt_mul, Int32.reduceToInt, i32_neg1, Nat.reducePow, Int.reducePow, ne_eq, ge_iff_le, gt_iff_lt] at *)) <;> (first | omega | ((simp (disch := omega) only [bm32] at *) <;> omega)))
  rw [hc]
  have e1 : Ext [] [(13, 0)] false M2 (aPq (cs 5) M2 b2 sz (some y)) := by
    unfold aPq
    refine Ext.arrQ hM (Ext.rf hM) A2.ok (Or.inr (fun z => ?_))
    exact z a 13 0 (by decide) (by decide) ho hq
  have hb2 : (aPq (cs 5) M2 b2 sz (some y)).1 b2 = some (1, .inl (cs 5, aL M2 b2, .inr (.inr (.inr (.inr (va_up (aQ M2 b2) sz (some y))))))) := by unfold aPq; exact gup_s
  have o1 : cOk 13 (aPq (cs 5) M2 b2 sz (some y)) a := e1.xcOk ho
  have q1 : cQ (aPq (cs 5) M2 b2 sz (some y)) a 0 = some b2 := by rw [e1.xcQ ho (by simp [si_1, si_2, sl_1, sl_2, sl_3, ai_1, ai_2, ai_3, ai_4, al_1, al_2, al_3, al_4, cp_1, cp_2, cp_3, cp_4])]; exact hq
  have v1 := (aQ_of hb2).2
  have l1 := (aQ_of hb2).1
  have k1 : aQk (cs 5) (aPq (cs 5) M2 b2 sz (some y)) b2 := ⟨_, _, hb2⟩
  have s1 : Sole (aPq (cs 5) M2 b2 sz (some y)) 13 0 a b2 := A2.sole.ext e1 A2.lt
  have t1 : b2 < (aPq (cs 5) M2 b2 sz (some y)).2.1 := A2.lt
  generalize aPq (cs 5) M2 b2 sz (some y) = M3 at e1 hb2 o1 q1 v1 l1 k1 s1 t1 ⊢
  refine ⟨o1, ?_⟩
  have e2 : Ext [(13, 1)] [] false M3 (cP 13 M3 a 1 (.int (x3 + 1))) := (Ext.rf e1.ok).putI 1 o1 (by decide) (by decide)
  have q2 := e2.xaQ k1 (s1.notV (V := []) (by decide))
  refine ⟨e2.xcOk o1, ?_, Or.inr ⟨n', b2, rfl, ?_, (e2.aR k1).1, ?_, ?_, s1.ext e2 t1, ?_, fun i hi => ?_, fun i hi => ?_⟩⟩
  · rw [cI_put o1 (by decide)]
    ((try (simp only [vp_in, Int32.toNatClampNeg, Int32.lt_iff_toInt_lt, Int32.le_iff_toInt_le, ← Int32.toInt_inj, Int32.toInt_add, Int32.toInt_sub, Int32.toInt_mul, Int32.reduceToInt, i32_neg1, Nat.reducePow, Int.reducePow, ne_eq, ge_iff_le, gt_iff_lt] at *)) <;> (first | omega | ((simp (disch := omega) only [bm32] at *) <;> omega)))
  · rw [e2.xcQ o1 (by decide)]; exact q1
  · rw [(e2.aR k1).2, l1, A2.len, hg]
  · rw [hg]; omega
  · exact t1
  · rw [q2, v1]
    unfold va_up
    by_cases z : i = sz
    · rw [if_pos z, z]; exact ⟨y, rfl, hy⟩
    · rw [if_neg z]; exact A2.el i (by omega)
  · rw [q2, v1]
    unfold va_up
    rw [if_neg (by omega)]
    exact A2.no i (by omega)
/-- a new array takes the old one's place -/
theorem alj_new (hM : MOk M) (bn : OwnB M) (ho : cOk 13 M a) {f : Nat → Option Nat} {cap : Nat} (hle : sz ≤ cap) (el : ∀ i, i < sz → ∃ y, f i = some y ∧ P i y) (no : ∀ i, sz ≤ i → f i = none) {M1 : gMem} (h1 : M1 = gup (gnw M (1, .inl (cs 5, cap, .inr (.inr (.inr (.inr (fun _ => none)))))) cap) M.2.1 (1, .inl (cs 5, cap, .inr (.inr (.inr (.inr f)))))) :
    cOk 13 M1 a ∧ cOk 13 (cP 13 M1 a 0 (va_rf (some M.2.1))) a ∧ cQ (cP 13 M1 a 0 (va_rf (some M.2.1))) a 0 = some M.2.1 ∧ ArJ cs (cP 13 M1 a 0 (va_rf (some M.2.1))) a M.2.1 P sz cap ∧ (cP 13 M1 a 0 (va_rf (some M.2.1))).2 = (M.2.1 + 1, M.2.2 + cap) ∧ (∀ c, c ≠ a → c < M.2.1 → (cP 13 M1 a 0 (va_rf (some M.2.1))).1 c = M.1 c) ∧ MOk (cP 13 M1 a 0 (va_rf (some M.2.1))) := by
  have ha : a < M.2.1 := ho.lt hM
  have m1 : ∀ c, c ≠ M.2.1 → M1.1 c = M.1 c := fun c hc => by rw [h1, gup_n hc, gnw_n hc]
  have m2 : M1.1 M.2.1 = some (1, .inl (cs 5, cap, .inr (.inr (.inr (.inr f))))) := by rw [h1, gup_s]
  have s1 : M1.2 = (M.2.1 + 1, M.2.2 + cap) := by rw [h1]; rfl
  have o1 : cOk 13 M1 a := (cOk_cong (m1 a (by omega))).mpr ho
  have o2 : cOk 13 (cP 13 M1 a 0 (va_rf (some M.2.1))) a := cOk_put (fun _ => ⟨_, rfl⟩) (fun z => (z (by decide)).elim) o1 o1
  have q2 : cQ (cP 13 M1 a 0 (va_rf (some M.2.1))) a 0 = some M.2.1 := cQ_put o1 (by decide)
  have n2 : ∀ c, c ≠ a → (cP 13 M1 a 0 (va_rf (some M.2.1))).1 c = M1.1 c := fun c hc => by unfold cP; exact gup_n hc
  have b2 : (cP 13 M1 a 0 (va_rf (some M.2.1))).1 M.2.1 = some (1, .inl (cs 5, cap, .inr (.inr (.inr (.inr f))))) := by rw [n2 _ (by omega), m2]
  refine ⟨o1, o2, q2, ⟨⟨_, _, b2⟩, (aQ_of b2).1, hle, ?_, ?_, by rw [(aQ_of b2).2]; exact el, by rw [(aQ_of b2).2]; exact no⟩, s1, fun c hc hl => by rw [n2 c hc, m1 c (by omega)], ?_⟩
  · intro a' ci' k' hk ho' hq'
    by_cases q : a' = a
    · subst q
      have := ho'.uniq o2
      subst this
      exact ⟨rfl, own13 hk, rfl⟩
    · exfalso
      have e := n2 a' q
      by_cases z : a' = M.2.1
      · subst z
        obtain ⟨fs, e1, -⟩ := ho'
        rw [b2] at e1
        cases e1
      · have o3 : cOk ci' M a' := (cOk_cong (e.trans (m1 a' z))).mp ho'
        have q3 : cQ M a' k' = some M.2.1 := by rw [← cQ_cong (e.trans (m1 a' z))]; exact hq'
        have := bn a' M.2.1 ci' k' hk o3 q3
        omega
  · show M.2.1 < M1.2.1
    rw [s1]
    exact Nat.lt_succ_self _
  · intro c hc
    have hc' : M1.2.1 ≤ c := hc
    rw [s1] at hc'
    have hc2 : M.2.1 + 1 ≤ c := hc'
    rw [n2 c (by omega), m1 c (by omega)]
    exact hM c (by omega)
/-- a full list grows -/
theorem alj_grow (hM : MOk M) (bn : OwnB M) (h : LiJ cs dE M a P sz n) (de : dE.1 < M.2.1 ∧ M.1 dE.1 = none) (hP : ∀ i z, P i z → cOk 10 M z ∨ cOk 11 M z) (hn : n ≤ 24) (hb : sz ≤ 106710) (hl1 : M.2.1 + 1 ≤ lim.1) (hl2 : M.2.2 + gr n ≤ lim.2) (full : n = 0 ∨ ∃ m, n = m + 1 ∧ sz = gr m) {x : Int32} (hx : x.toInt = (sz + 1 : Nat)) :
    S_AL_grow2 cs lim dE M a x ∧ (F_AL_grow2 cs dE M a x).1 = some M.2.1 ∧ cOk 13 (F_AL_grow2 cs dE M a x).2 a ∧ cQ (F_AL_grow2 cs dE M a x).2 a 0 = some M.2.1 ∧ ArJ cs (F_AL_grow2 cs dE M a x).2 a M.2.1 P sz (gr n) ∧ (F_AL_grow2 cs dE M a x).2.2 = (M.2.1 + 1, M.2.2 + gr n) ∧ (∀ c, c ≠ a → c < M.2.1 → (F_AL_grow2 cs dE M a x).2.1 c = M.1 c) ∧ MOk (F_AL_grow2 cs dE M a x).2 := by
  have ho := h.ok
  obtain ⟨gl, gh⟩ := gr_le hn
  rcases h.ref with ⟨rfl, rfl, hq⟩ | ⟨n', b, rfl, hq, A1⟩
  · have hL : aL M dE.1 = 0 := by unfold aL; rw [de.2]
    have z0 : ¬ (0 : Int32) < nI 0 := by decide
    have hw : (if (10 : Int32) < x then x else 10) = 10 := by rw [if_neg]; ((try (simp only [vp_in, Int32.toNatClampNeg, Int32.lt_iff_toInt_lt, Int32.le_iff_toInt_le, ← Int32.toInt_inj, Int32.toInt_add, Int32.toInt_sub, Int32.toInt_mul, Int32.reduceToInt, i32_neg1, Nat.reducePow, Int.reducePow, ne_eq, ge_iff_le, gt_iff_lt] at *)) <;> (first | omega | ((simp (disch := omega) only [bm32] at *) <;> omega)))
    unfold S_AL_grow2 F_AL_grow2
    rw [hq]
    simp only [Option.getD_some, hL, if_neg z0, if_true, mbind_eq, hw]
    have h10 : (10 : Int32).toNatClampNeg = 10 := by decide
    rw [h10]
    have g0 : gr 0 = 10 := rfl
    have e : gnw M (1, .inl (cs 5, 10, .inr (.inr (.inr (.inr (fun _ => none)))))) 10 = gup (gnw M (1, .inl (cs 5, 10, .inr (.inr (.inr (.inr (fun _ => none)))))) 10) M.2.1 (1, .inl (cs 5, 10, .inr (.inr (.inr (.inr (fun _ => none)))))) := by
      unfold gup gnw
      simp only [Prod.mk.injEq, and_self, and_true]
      funext c
      split <;> simp_all
    obtain ⟨p1, p2, p3, p4, p5, p6, p7⟩ := alj_new (cs := cs) (P := P) (sz := 0) (f := fun _ => none) (cap := 10) hM bn ho (Nat.zero_le _) (fun i hi => by omega) (fun _ _ => rfl) e
    refine ⟨⟨ho, ⟨trivial, Or.inr ⟨rfl, de.2⟩⟩, ho, ⟨⟨by decide, by decide⟩, hl1, by rw [g0] at hl2; exact hl2⟩, p1, trivial⟩, trivial, p2, p3, p4, p5, p6, p7⟩
  · obtain ⟨gl', gh'⟩ := gr_le (n := n') (by omega)
    have hsz : sz = gr n' := by
      rcases full with z | ⟨m, z1, z2⟩
      · omega
      · have : m = n' := by omega
        rw [z2, this]
    have hL := A1.len
    have hi : (nI (gr n')).toInt = (gr n' : Nat) := nI_toI (by omega)
    have zp : (0 : Int32) < nI (gr n') := by ((try (simp only [vp_in, Int32.toNatClampNeg, Int32.lt_iff_toInt_lt, Int32.le_iff_toInt_le, ← Int32.toInt_inj, Int32.toInt_add, Int32.toInt_sub, Int32.toInt_mul, Int32.reduceToInt, i32_neg1, Nat.reducePow, Int.reducePow, ne_eq, ge_iff_le, gt_iff_lt] at *)) <;> (first | omega | ((simp (disch := omega) only [bm32] at *) <;> omega)))
    have hh := half32 (nI (gr n'))
    rw [hi] at hh
    generalize hsh : nI (gr n') >>> (1 &&& 31) = sh at hh
    have hlt : x - nI (gr n') < sh := by
      have : (x - nI (gr n')).toInt = 1 := by clear hsh; ((try (simp only [vp_in, Int32.toNatClampNeg, Int32.lt_iff_toInt_lt, Int32.le_iff_toInt_le, ← Int32.toInt_inj, Int32.toInt_add, Int32.toInt_sub, Int32.toInt_mul, Int32.reduceToInt, i32_neg1, Nat.reducePow, Int.reducePow, ne_eq, ge_iff_le, gt_iff_lt] at *)) <;> (first | omega | ((simp (disch := omega) only [bm32] at *) <;> omega)))
      rw [Int32.lt_iff_toInt_lt, this, hh]
      omega
    have gn : gr (n' + 1) = gr n' + gr n' / 2 := rfl
    have hw5 : (nI (gr n') + sh).toInt = (gr (n' + 1) : Nat) := by
      rw [gn]
      clear hsh hlt
      have : (gr n' : Int) / 2 = ((gr n' / 2 : Nat) : Int) := by omega
      rw [this] at hh
      ((try (simp only [vp_in, Int32.toNatClampNeg, Int32.lt_iff_toInt_lt, Int32.le_iff_toInt_le, ← Int32.toInt_inj, Int32.toInt_add, Int32.toInt_sub, Int32.toInt_mul, Int32.reduceToInt, i32_neg1, Nat.reducePow, Int.reducePow, ne_eq, ge_iff_le, gt_iff_lt] at *)) <;> (first | omega | ((simp (disch := omega) only [bm32] at *) <;> omega)))
    have np : ¬ nI (gr n') + sh ≤ 0 := by rw [Int32.le_iff_toInt_le, hw5]; show ¬ ((_ : Int) ≤ 0); omega
    have nb : ¬ 2147483639 < nI (gr n') + sh := by rw [Int32.lt_iff_toInt_lt, hw5]; show ¬ ((2147483639 : Int) < _); omega
    have fN : F_ArraysSupport_newLength cs M (nI (gr n')) (x - nI (gr n')) sh = nI (gr n') + sh := by
      unfold F_ArraysSupport_newLength
      simp only [mbind_eq, if_pos hlt, if_neg np, if_neg nb]
    have sN : S_ArraysSupport_newLength cs lim M (nI (gr n')) (x - nI (gr n')) sh := by
      unfold S_ArraysSupport_newLength
      simp only [mbind_eq, if_pos hlt, if_neg np, if_neg nb]
    have hcl : (nI (gr n') + sh).toNatClampNeg = gr (n' + 1) := by
      show (nI (gr n') + sh).toInt.toNat = _
      rw [hw5]; omega
    have hbne : b ≠ M.2.1 := by have := A1.lt; omega
    generalize nI (gr n') + sh = w5 at hw5 np nb fN hcl
    unfold S_AL_grow2 F_AL_grow2
    rw [hq]
    simp only [Option.getD_some, hL, if_pos zp, mbind_eq, hsh, fN]
    have hb3 : (gnw M (1, .inl (cs 5, gr (n' + 1), .inr (.inr (.inr (.inr (fun _ => none)))))) (gr (n' + 1))).1 b = M.1 b := gnw_n hbne
    have lb : aL (gnw M (1, .inl (cs 5, gr (n' + 1), .inr (.inr (.inr (.inr (fun _ => none)))))) (gr (n' + 1))) b = gr n' := by rw [aL_cong hb3]; exact hL
    have ln : aL (gnw M (1, .inl (cs 5, gr (n' + 1), .inr (.inr (.inr (.inr (fun _ => none)))))) (gr (n' + 1))) M.2.1 = gr (n' + 1) := (aQ_of gnw_s).1
    have an : aQ (gnw M (1, .inl (cs 5, gr (n' + 1), .inr (.inr (.inr (.inr (fun _ => none)))))) (gr (n' + 1))) M.2.1 = fun _ => none := (aQ_of gnw_s).2
    have ab : aQ (gnw M (1, .inl (cs 5, gr (n' + 1), .inr (.inr (.inr (.inr (fun _ => none)))))) (gr (n' + 1))) b = aQ M b := aQ_cong hb3
    have kb : aQk (cs 5) (gnw M (1, .inl (cs 5, gr (n' + 1), .inr (.inr (.inr (.inr (fun _ => none)))))) (gr (n' + 1))) b := by obtain ⟨z1, z2, z3⟩ := A1.ok; exact ⟨z1, z2, by rw [hb3]; exact z3⟩
    have kn : aQk (cs 5) (gnw M (1, .inl (cs 5, gr (n' + 1), .inr (.inr (.inr (.inr (fun _ => none)))))) (gr (n' + 1))) M.2.1 := ⟨_, _, gnw_s⟩
    have mn : ¬ w5 < nI (gr n') := by rw [Int32.lt_iff_toInt_lt, hw5, hi]; omega
    have hmn : (if w5 < nI (gr n') then w5 else nI (gr n')) = nI (gr n') := if_neg mn
    have hcl2 : (nI (gr n')).toNatClampNeg = gr n' := by show (nI (gr n')).toInt.toNat = _; rw [hi]; omega
    have fC : F_Ar_copyOf2 cs dE M (some b) w5 = (some M.2.1, aCq (cs 5) (gnw M (1, .inl (cs 5, gr (n' + 1), .inr (.inr (.inr (.inr (fun _ => none)))))) (gr (n' + 1))) b M.2.1 0 0 (gr n')) := by
      unfold F_Ar_copyOf2 F_Ar_copyOf3
      simp only [if_true, mbind_eq, Option.getD_some, hcl, lb, hmn, hcl2]
      rfl
    have el : oEl (gnw M (1, .inl (cs 5, gr (n' + 1), .inr (.inr (.inr (.inr (fun _ => none)))))) (gr (n' + 1))) b := by
      intro i z hz
      rw [ab] at hz
      have hp : P i z := by
        by_cases hi2 : i < sz
        · obtain ⟨z', z1, z2⟩ := A1.el i hi2
          rw [hz] at z1
          cases z1
          exact z2
        · rw [A1.no i (by omega)] at hz
          cases hz
      have ne : ∀ {ci : Nat}, cOk ci M z → z ≠ M.2.1 := fun hc => by have := hc.lt hM; omega
      rcases hP i z hp with g | g
      · exact Or.inl ((cOk_cong (gnw_n (ne g))).mpr g)
      · exact Or.inr ((cOk_cong (gnw_n (ne g))).mpr g)
    have sC : S_Ar_copyOf2 cs lim dE M (some b) w5 := by
      unfold S_Ar_copyOf2 S_Ar_copyOf3
      simp only [if_true, mbind_eq, Option.getD_some, hcl, lb, ln, hmn, hcl2]
      refine ⟨⟨trivial, A1.ok⟩, ⟨⟨⟨by rw [Int32.lt_iff_toInt_lt, hw5]; show ¬ ((_ : Int) < 0); omega, by omega⟩, hl1, hl2⟩, ⟨trivial, Or.inl kb⟩, ⟨trivial, kb⟩, kn, el, ⟨⟨by decide, by decide, by rw [Int32.lt_iff_toInt_lt, hi]; show ¬ ((_ : Int) < 0); omega⟩, by show (0 : Int32).toNatClampNeg + gr n' ≤ gr n'; simp [si_1, si_2, sl_1, sl_2, sl_3, ai_1, ai_2, ai_3, ai_4, al_1, al_2, al_3, al_4, cp_1, cp_2, cp_3, cp_4], ?_⟩, trivial⟩, trivial⟩
      show (0 : Int32).toNatClampNeg + gr n' ≤ gr (n' + 1)
      have : (0 : Int32).toNatClampNeg = 0 := by decide
      rw [this, gn]
      omega
    simp only [fC]
    have e : aCq (cs 5) (gnw M (1, .inl (cs 5, gr (n' + 1), .inr (.inr (.inr (.inr (fun _ => none)))))) (gr (n' + 1))) b M.2.1 0 0 (gr n') = gup (gnw M (1, .inl (cs 5, gr (n' + 1), .inr (.inr (.inr (.inr (fun _ => none)))))) (gr (n' + 1))) M.2.1 (1, .inl (cs 5, gr (n' + 1), .inr (.inr (.inr (.inr (va_cpy (aQ M b) (fun _ => none) 0 0 (gr n'))))))) := by
      unfold aCq
      rw [ln, an, ab]
    obtain ⟨p1, p2, p3, p4, p5, p6, p7⟩ := alj_new (cs := cs) (P := P) (sz := sz) (f := va_cpy (aQ M b) (fun _ => none) 0 0 (gr n')) (cap := gr (n' + 1)) hM bn ho (by omega) (fun i hi2 => by
      unfold va_cpy
      rw [if_pos ⟨Nat.zero_le _, by omega⟩]
      have := A1.el i hi2
      simpa [si_1, si_2, sl_1, sl_2, sl_3, ai_1, ai_2, ai_3, ai_4, al_1, al_2, al_3, al_4, cp_1, cp_2, cp_3, cp_4] using this) (fun i hi2 => by
      unfold va_cpy
      rw [if_neg (by omega)]) e
    exact ⟨⟨ho, ⟨trivial, Or.inl A1.ok⟩, sN, ho, sC, p1, trivial⟩, trivial, p2, p3, p4, p5, p6, p7⟩
theorem alj_add (hM : MOk M) (bn : OwnB M) (h : LiJ cs dE M a P sz n) (de : dE.1 < M.2.1 ∧ M.1 dE.1 = none) (hP : ∀ i z, P i z → cOk 10 M z ∨ cOk 11 M z) (hy : P sz y) (hn : n ≤ 24) (hb : sz ≤ 106709) (hl1 : M.2.1 + 1 ≤ lim.1) (hl2 : (n = 0 ∨ ∃ m, n = m + 1 ∧ sz = gr m) → M.2.2 + gr n ≤ lim.2) :
    S_AL_add cs lim dE M a (some y) ∧ ∃ n', AdJ cs dE M (F_AL_add cs dE M a (some y)).2 a P sz n n' := by
  have ho := h.ok
  have e0 : Ext [(13, 2)] [] false M (cP 13 M a 2 (.int (cI M a 2 + 1))) := (Ext.rf hM).putI 2 ho (by decide) (by decide)
  have n0 : ∀ c, c ≠ a → (cP 13 M a 2 (.int (cI M a 2 + 1))).1 c = M.1 c := fun c hc => by unfold cP; exact gup_n hc
  have s0 : (cP 13 M a 2 (.int (cI M a 2 + 1))).2 = M.2 := rfl
  have hane : dE.1 ≠ a := fun q => by
    obtain ⟨fs, e1, -⟩ := ho
    rw [← q, de.2] at e1
    cases e1
  unfold S_AL_add F_AL_add
  simp only [mbind_eq]
  have h1 : LiJ cs dE (cP 13 M a 2 (.int (cI M a 2 + 1))) a P sz n := h.ext e0 (by decide) (by decide) (by decide)
  have q0 : cQ (cP 13 M a 2 (.int (cI M a 2 + 1))) a 0 = cQ M a 0 := e0.xcQ ho (by decide)
  have bn1 : OwnB (cP 13 M a 2 (.int (cI M a 2 + 1))) := bn.ext e0
  have de1 : dE.1 < (cP 13 M a 2 (.int (cI M a 2 + 1))).2.1 ∧ (cP 13 M a 2 (.int (cI M a 2 + 1))).1 dE.1 = none := ⟨de.1, by rw [n0 _ hane]; exact de.2⟩
  have hP1 : ∀ i z, P i z → cOk 10 (cP 13 M a 2 (.int (cI M a 2 + 1))) z ∨ cOk 11 (cP 13 M a 2 (.int (cI M a 2 + 1))) z := fun i z hz => (hP i z hz).imp e0.xcOk e0.xcOk
  have hM1 := e0.ok
  generalize cP 13 M a 2 (.int (cI M a 2 + 1)) = M1 at e0 n0 s0 h1 q0 bn1 de1 hP1 hM1 ⊢
  have ho1 := h1.ok
  have hs1 := h1.siz
  have so : S_AL_add2 cs lim dE M1 a (some y) (cQ M1 a 0) (cI M1 a 1) ∧ ∃ n', AdJ cs dE M1 (F_AL_add2 cs dE M1 a (some y) (cQ M1 a 0) (cI M1 a 1)) a P sz n n' := by
    by_cases full : n = 0 ∨ ∃ m, n = m + 1 ∧ sz = gr m
    · have hx : (cI M1 a 1 + 1).toInt = (sz + 1 : Nat) := by ((try (simp only [vp_in, Int32.toNatClampNeg, Int32.lt_iff_toInt_lt, Int32.le_iff_toInt_le, ← Int32.toInt_inj, Int32.toInt_add, Int32.toInt_sub, Int32.toInt_mul, Int32.reduceToInt, i32_neg1, Nat.reducePow, Int.reducePow, ne_eq, ge_iff_le, gt_iff_lt] at *)) <;> (first | omega | ((simp (disch := omega) only [bm32] at *) <;> omega)))
      obtain ⟨g1, g2, g3, g4, g5, g6, g7, g8⟩ := alj_grow (lim := lim) hM1 bn1 h1 de1 hP1 hn (by omega) (by rw [s0]; exact hl1) (by rw [s0]; exact hl2 full) full hx
      have heq : cQ M1 a 0 = some ((cQ M1 a 0).getD 0) ∧ oOk cs dE M1 ((cQ M1 a 0).getD 0) ∧ cI M1 a 1 = nI (aL M1 ((cQ M1 a 0).getD 0)) := by
        rcases h1.ref with ⟨r1, r2, r3⟩ | ⟨n', b, r1, r2, r3⟩
        · rw [r3]
          refine ⟨rfl, Or.inr ⟨rfl, de1.2⟩, ?_⟩
          have hL : aL M1 dE.1 = 0 := by unfold aL; rw [de1.2]
          show cI M1 a 1 = nI (aL M1 dE.1)
          rw [hL, ← Int32.toInt_inj, hs1, r2]
          rfl
        · rw [r2]
          refine ⟨rfl, Or.inl r3.ok, ?_⟩
          show cI M1 a 1 = nI (aL M1 b)
          obtain ⟨gl', gh'⟩ := gr_le (n := n') (by omega)
          rcases full with z | ⟨m, z1, z2⟩
          · omega
          · have : m = n' := by omega
            subst this
            rw [r3.len, ← Int32.toInt_inj, hs1, z2, nI_toI (by omega)]
      obtain ⟨x1, x2, x3⟩ := heq
      unfold S_AL_add2 F_AL_add2
      simp only [if_pos x3, mbind_eq]
      have fg : F_AL_grow cs dE M1 a = F_AL_grow2 cs dE M1 a (cI M1 a 1 + 1) := rfl
      rw [fg]
      have ex := xx_AL_grow2 cs lim dE M1 a (cI M1 a 1 + 1) hM1 g1
      generalize F_AL_grow2 cs dE M1 a (cI M1 a 1 + 1) = w9 at g2 g3 g4 g5 g6 g7 g8 ex ⊢
      obtain ⟨r, M2⟩ := w9
      dsimp only at g2 g3 g4 g5 g6 g7 g8 ex ⊢
      subst g2
      simp only [Option.getD_some]
      have hlt : sz < gr n := by
        rcases full with z | ⟨m, z1, z2⟩
        · subst z
          rcases h1.ref with ⟨r1, r2, r3⟩ | ⟨n', b, r1, r2, r3⟩
          · rw [r2]; decide
          · cases r1
        · subst z1
          obtain ⟨gl', gh'⟩ := gr_le (n := m) (by omega)
          have : gr (m + 1) = gr m + gr m / 2 := rfl
          omega
      rcases alj_fin (dE := dE) (n := n + 1) g8 g3 g4 g5 hlt hs1 (by omega) hy with ⟨f1, f2⟩ | f
      rotate_left
      · exact absurd ⟨n, rfl, rfl⟩ f
      refine ⟨⟨⟨x1, x2⟩, ho1, ⟨ho1, ho1, g1, trivial⟩, ⟨trivial, g5.ok⟩, ?_, ?_, f1, trivial⟩, n + 1, f2, Or.inr ⟨rfl, ?_, full⟩, fun c h1c h2c h3c => ?_⟩
      · rw [g5.len]
        have := gr_le hn
        ((try (simp only [vp_in, Int32.toNatClampNeg, Int32.lt_iff_toInt_lt, Int32.le_iff_toInt_le, ← Int32.toInt_inj, Int32.toInt_add, Int32.toInt_sub, Int32.toInt_mul, Int32.reduceToInt, i32_neg1, Nat.reducePow, Int.reducePow, ne_eq, ge_iff_le, gt_iff_lt] at *)) <;> (first | omega | ((simp (disch := omega) only [bm32] at *) <;> omega)))
      · rcases hP1 sz y hy with z | z
        · exact Or.inl ⟨y, rfl, ex.1.xcOk z⟩
        · exact Or.inr ⟨y, rfl, ex.1.xcOk z⟩
      · show M2.2 = _
        exact g6
      · have : (cP 13 (aPq (cs 5) M2 M1.2.1 (cI M1 a 1).toNatClampNeg (some y)) a 1 (.int (cI M1 a 1 + 1))).1 c = M2.1 c := by
          unfold cP aPq
          rw [gup_n h1c, gup_n (by omega)]
        rw [this]
        exact g7 c h1c h3c
    · rcases h1.ref with ⟨r1, r2, r3⟩ | ⟨n', b, r1, r2, r3⟩
      · exact absurd (Or.inl r1) full
      · have hlt : sz < gr n' := by
          have := r3.le
          rcases Nat.lt_or_ge sz (gr n') with z | z
          · exact z
          · exact absurd (Or.inr ⟨n', r1, by omega⟩) full
        obtain ⟨gl', gh'⟩ := gr_le (n := n') (by omega)
        have hi : (nI (gr n')).toInt = (gr n' : Nat) := nI_toI (by omega)
        have hne : ¬ cI M1 a 1 = nI (aL M1 b) := by rw [r3.len, ← Int32.toInt_inj, hs1, hi]; omega
        unfold S_AL_add2 F_AL_add2
        rw [r2]
        simp only [Option.getD_some, if_neg hne]
        rcases alj_fin (dE := dE) (n := n) hM1 ho1 r2 r3 hlt hs1 (by omega) hy with ⟨f1, f2⟩ | f
        rotate_left
        · exact absurd ⟨n', r1, rfl⟩ f
        refine ⟨⟨⟨trivial, Or.inl r3.ok⟩, ⟨trivial, r3.ok⟩, ?_, ?_, f1, trivial⟩, n, f2, Or.inl ⟨rfl, rfl⟩, fun c h1c h2c h3c => ?_⟩
        · rw [r3.len]
          ((try (simp only [vp_in, Int32.toNatClampNeg, Int32.lt_iff_toInt_lt, Int32.le_iff_toInt_le, ← Int32.toInt_inj, Int32.toInt_add, Int32.toInt_sub, Int32.toInt_mul, Int32.reduceToInt, i32_neg1, Nat.reducePow, Int.reducePow, ne_eq, ge_iff_le, gt_iff_lt] at *)) <;> (first | omega | ((simp (disch := omega) only [bm32] at *) <;> omega)))
        · rcases hP1 sz y hy with z | z
          · exact Or.inl ⟨y, rfl, z⟩
          · exact Or.inr ⟨y, rfl, z⟩
        · unfold cP aPq
          rw [gup_n h1c, gup_n (fun q => h2c (by rw [q]; exact r2))]
  obtain ⟨s2, n', A1⟩ := so
  refine ⟨⟨ho, ho, ho1, ho1, ho1, s2, trivial⟩, n', A1.li, ?_, fun c c1 c2 c3 => ?_⟩
  · have := A1.siz
    rw [s0] at this
    exact this
  · rw [A1.fr c c1 (by rw [q0]; exact c2) (by rw [s0]; exact c3)]
    exact n0 c c1
end
end
