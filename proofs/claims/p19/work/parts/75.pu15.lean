-- pure rows: CA CB
section
/-! pure rows, the class: what any method leaves of the memory -/
/-- the fields that hold arrays -/
def OWN : List (Nat × Nat) := [(2, 0), (10, 0), (11, 0), (6, 4), (0, 2), (0, 3), (6, 2), (6, 3), (3, 0), (3, 1), (13, 0)]
def MOk (M : gMem) : Prop := ∀ a, M.2.1 ≤ a → M.1 a = none
theorem MOk.lt {M : gMem} (h : MOk M) {a : Nat} {x : Nat × va_E} (ha : M.1 a = some x) : a < M.2.1 := by
  rcases Nat.lt_or_ge a M.2.1 with g | g
  · exact g
  · rw [h a g] at ha; cases ha
theorem cOk.lt {ci : Nat} {M : gMem} {a : Nat} (hM : MOk M) (h : cOk ci M a) : a < M.2.1 := by
  obtain ⟨fs, h, -⟩ := h
  exact hM.lt h
/-- no field of V names b -/
def NotV (V : List (Nat × Nat)) (M : gMem) (b : Nat) : Prop := ∀ a ci k, (ci, k) ∈ V → (ci, k) ∈ OWN → cOk ci M a → cQ M a k ≠ some b
/-- Ext W V al M M': cells outside region 1 stay (if (99, 0) is not in W); objects keep their class and the fields outside W; arrays keep their length, and what they hold unless a field of V names them; what is new is new -/
def Ext (W V : List (Nat × Nat)) (al : Bool) (M M' : gMem) : Prop := ((99, 0) ∉ W → ∀ a x, M.1 a = some x → x.1 ≠ 1 → M'.1 a = some x) ∧ (∀ a ci fs, M.1 a = some (1, .inr (ci, fs)) → ∃ fs', M'.1 a = some (1, .inr (ci, fs')) ∧ (cwt ci fs → cwt ci fs') ∧ ∀ k, (ci, k) ∉ W → fs'[k]? = fs[k]?) ∧ (∀ b cA n f, M.1 b = some (1, .inl (cA, n, .inl f)) → ∃ f', M'.1 b = some (1, .inl (cA, n, .inl f')) ∧ (NotV V M b → f' = f)) ∧ (∀ b cA n f, M.1 b = some (1, .inl (cA, n, .inr (.inr (.inr (.inr f))))) → ∃ f', M'.1 b = some (1, .inl (cA, n, .inr (.inr (.inr (.inr f'))))) ∧ (NotV V M b → f' = f)) ∧ (M.2.1 ≤ M'.2.1 ∧ M.2.2 ≤ M'.2.2 ∧ (al = false → M'.2 = M.2)) ∧ (∀ a, M.1 a = none → M'.1 a ≠ none → M.2.1 ≤ a) ∧ (∀ a b ci k, (ci, k) ∈ OWN → cOk ci M' a → cQ M' a k = some b → b < M.2.1 → cOk ci M a ∧ cQ M a k = some b) ∧ (∀ a b ci k, (ci, k) ∈ OWN → cOk ci M' a → cQ M' a k = some b → b < M'.2.1 ∨ (cOk ci M a ∧ cQ M a k = some b)) ∧ (MOk M')
theorem Ext.oth {W V : List (Nat × Nat)} {al : Bool} {M M' : gMem} (self : Ext W V al M M') : (99, 0) ∉ W → ∀ a x, M.1 a = some x → x.1 ≠ 1 → M'.1 a = some x := self.1
theorem Ext.obj {W V : List (Nat × Nat)} {al : Bool} {M M' : gMem} (self : Ext W V al M M') : ∀ a ci fs, M.1 a = some (1, .inr (ci, fs)) → ∃ fs', M'.1 a = some (1, .inr (ci, fs')) ∧ (cwt ci fs → cwt ci fs') ∧ ∀ k, (ci, k) ∉ W → fs'[k]? = fs[k]? := self.2.1
theorem Ext.int {W V : List (Nat × Nat)} {al : Bool} {M M' : gMem} (self : Ext W V al M M') : ∀ b cA n f, M.1 b = some (1, .inl (cA, n, .inl f)) → ∃ f', M'.1 b = some (1, .inl (cA, n, .inl f')) ∧ (NotV V M b → f' = f) := self.2.2.1
theorem Ext.ref {W V : List (Nat × Nat)} {al : Bool} {M M' : gMem} (self : Ext W V al M M') : ∀ b cA n f, M.1 b = some (1, .inl (cA, n, .inr (.inr (.inr (.inr f))))) → ∃ f', M'.1 b = some (1, .inl (cA, n, .inr (.inr (.inr (.inr f'))))) ∧ (NotV V M b → f' = f) := self.2.2.2.1
theorem Ext.sz {W V : List (Nat × Nat)} {al : Bool} {M M' : gMem} (self : Ext W V al M M') : M.2.1 ≤ M'.2.1 ∧ M.2.2 ≤ M'.2.2 ∧ (al = false → M'.2 = M.2) := self.2.2.2.2.1
theorem Ext.fresh {W V : List (Nat × Nat)} {al : Bool} {M M' : gMem} (self : Ext W V al M M') : ∀ a, M.1 a = none → M'.1 a ≠ none → M.2.1 ≤ a := self.2.2.2.2.2.1
theorem Ext.own {W V : List (Nat × Nat)} {al : Bool} {M M' : gMem} (self : Ext W V al M M') : ∀ a b ci k, (ci, k) ∈ OWN → cOk ci M' a → cQ M' a k = some b → b < M.2.1 → cOk ci M a ∧ cQ M a k = some b := self.2.2.2.2.2.2.1
theorem Ext.bnd {W V : List (Nat × Nat)} {al : Bool} {M M' : gMem} (self : Ext W V al M M') : ∀ a b ci k, (ci, k) ∈ OWN → cOk ci M' a → cQ M' a k = some b → b < M'.2.1 ∨ (cOk ci M a ∧ cQ M a k = some b) := self.2.2.2.2.2.2.2.1
theorem Ext.ok {W V : List (Nat × Nat)} {al : Bool} {M M' : gMem} (self : Ext W V al M M') : MOk M' := self.2.2.2.2.2.2.2.2
theorem Ext.rf {W V : List (Nat × Nat)} {al : Bool} {M : gMem} (h : MOk M) : Ext W V al M M :=
  ⟨fun _ _ _ h _ => h, fun _ _ fs h => ⟨fs, h, fun h => h, fun _ _ => rfl⟩, fun _ _ _ f h => ⟨f, h, fun _ => rfl⟩, fun _ _ _ f h => ⟨f, h, fun _ => rfl⟩, ⟨Nat.le_refl _, Nat.le_refl _, fun _ => rfl⟩, fun _ h h' => (h' h).elim, fun _ _ _ _ _ h1 h2 _ => ⟨h1, h2⟩, fun _ _ _ _ _ h1 h2 => Or.inr ⟨h1, h2⟩, h⟩
theorem Ext.notV {W V V' : List (Nat × Nat)} {al : Bool} {M M1 : gMem} (h : Ext W V al M M1) {b : Nat} (hb : b < M.2.1) (hv : NotV V' M b) : NotV V' M1 b := fun a ci k hk ho ha hq => by
  obtain ⟨z1, z2⟩ := h.own a b ci k ho ha hq hb
  exact hv a ci k hk ho z1 z2
theorem Ext.trans {W V : List (Nat × Nat)} {al : Bool} {M M1 M2 : gMem} (hM : MOk M) (h : Ext W V al M M1) (h' : Ext W V al M1 M2) : Ext W V al M M2 := by
  refine ⟨fun w a x hx hr => h'.oth w a x (h.oth w a x hx hr) hr, ?_, ?_, ?_, ?_, ?_, ?_, ?_, h'.ok⟩
  · intro a ci fs hx
    obtain ⟨f1, e1, e2, e3⟩ := h.obj a ci fs hx
    obtain ⟨f2, g1, g2, g3⟩ := h'.obj a ci f1 e1
    exact ⟨f2, g1, fun z => g2 (e2 z), fun k hk => (g3 k hk).trans (e3 k hk)⟩
  · intro b cA n f hx
    obtain ⟨f1, e1, e2⟩ := h.int b cA n f hx
    obtain ⟨f2, g1, g2⟩ := h'.int b cA n f1 e1
    exact ⟨f2, g1, fun hv => (g2 (h.notV (hM.lt hx) hv)).trans (e2 hv)⟩
  · intro b cA n f hx
    obtain ⟨f1, e1, e2⟩ := h.ref b cA n f hx
    obtain ⟨f2, g1, g2⟩ := h'.ref b cA n f1 e1
    exact ⟨f2, g1, fun hv => (g2 (h.notV (hM.lt hx) hv)).trans (e2 hv)⟩
  · exact ⟨Nat.le_trans h.sz.1 h'.sz.1, Nat.le_trans h.sz.2.1 h'.sz.2.1, fun z => (h'.sz.2.2 z).trans (h.sz.2.2 z)⟩
  · intro a ha ha'
    by_cases h1 : M1.1 a = none
    · exact Nat.le_trans h.sz.1 (h'.fresh a h1 ha')
    · exact h.fresh a ha h1
  · intro a b ci k hk ha hq hb
    obtain ⟨z1, z2⟩ := h'.own a b ci k hk ha hq (Nat.lt_of_lt_of_le hb h.sz.1)
    exact h.own a b ci k hk z1 z2 hb
  · intro a b ci k hk ha hq
    rcases h'.bnd a b ci k hk ha hq with g | ⟨z1, z2⟩
    · exact Or.inl g
    · rcases h.bnd a b ci k hk z1 z2 with g | g
      · exact Or.inl (Nat.lt_of_lt_of_le g h'.sz.1)
      · exact Or.inr g
theorem Ext.mono {W V W' V' : List (Nat × Nat)} {al al' : Bool} {M M1 : gMem} (h : Ext W V al M M1) (hW : W.all (fun x => W'.contains x) = true) (hV : V.all (fun x => V'.contains x) = true) (ha : al' = false → al = false) : Ext W' V' al' M M1 := by
  have hW' : ∀ x, x ∈ W → x ∈ W' := fun x hx => by simpa using List.all_eq_true.mp hW x hx
  have hV' : ∀ x, x ∈ V → x ∈ V' := fun x hx => by simpa using List.all_eq_true.mp hV x hx
  refine ⟨fun w => h.oth (fun z => w (hW' _ z)), ?_, ?_, ?_, ⟨h.sz.1, h.sz.2.1, fun z => h.sz.2.2 (ha z)⟩, h.fresh, h.own, h.bnd, h.ok⟩
  · intro a ci fs hx
    obtain ⟨f1, e1, e2, e3⟩ := h.obj a ci fs hx
    exact ⟨f1, e1, e2, fun k hk => e3 k (fun z => hk (hW' _ z))⟩
  · intro b cA n f hx
    obtain ⟨f1, e1, e2⟩ := h.int b cA n f hx
    exact ⟨f1, e1, fun hv => e2 (fun a ci k hk => hv a ci k (hV' _ hk))⟩
  · intro b cA n f hx
    obtain ⟨f1, e1, e2⟩ := h.ref b cA n f hx
    exact ⟨f1, e1, fun hv => e2 (fun a ci k hk => hv a ci k (hV' _ hk))⟩
theorem Ext.then {W V W' V' : List (Nat × Nat)} {al al' : Bool} {M M1 M2 : gMem} (hM : MOk M) (h : Ext W V al M M1) (h' : Ext W' V' al' M1 M2) (hW : W'.all (fun x => W.contains x) = true) (hV : V'.all (fun x => V.contains x) = true) (ha : al = false → al' = false) : Ext W V al M M2 := h.trans hM (h'.mono hW hV ha)
/-! what is told of an object -/
theorem Ext.xcOk {W V : List (Nat × Nat)} {al : Bool} {M M1 : gMem} (h : Ext W V al M M1) {ci a : Nat} (ho : cOk ci M a) : cOk ci M1 a := by
  obtain ⟨fs, h1, h2⟩ := ho
  obtain ⟨f1, e1, e2, -⟩ := h.obj a ci fs h1
  exact ⟨f1, e1, e2 h2⟩
theorem Ext.xcI {W V : List (Nat × Nat)} {al : Bool} {M M1 : gMem} (h : Ext W V al M M1) {ci a k : Nat} (ho : cOk ci M a) (hk : (ci, k) ∉ W) : cI M1 a k = cI M a k := by
  obtain ⟨fs, h1, h2⟩ := ho
  obtain ⟨f1, e1, e2, e3⟩ := h.obj a ci fs h1
  unfold cI
  rw [cO_of h1, cO_of e1, e3 k hk]
theorem Ext.xcQ {W V : List (Nat × Nat)} {al : Bool} {M M1 : gMem} (h : Ext W V al M M1) {ci a k : Nat} (ho : cOk ci M a) (hk : (ci, k) ∉ W) : cQ M1 a k = cQ M a k := by
  obtain ⟨fs, h1, h2⟩ := ho
  obtain ⟨f1, e1, e2, e3⟩ := h.obj a ci fs h1
  unfold cQ
  rw [cO_of h1, cO_of e1, e3 k hk]
theorem aIk.eq {cA : ClassId} {M : gMem} {b : Nat} (h : aIk cA M b) : M.1 b = some (1, .inl (cA, aL M b, .inl (aF M b))) := by
  obtain ⟨n, f, h⟩ := h
  have e1 : aL M b = n := by unfold aL; rw [h]
  have e2 : aF M b = f := by unfold aF; rw [h]
  rw [e1, e2]; exact h
theorem aQk.eq {cA : ClassId} {M : gMem} {b : Nat} (h : aQk cA M b) : M.1 b = some (1, .inl (cA, aL M b, .inr (.inr (.inr (.inr (aQ M b)))))) := by
  obtain ⟨n, f, h⟩ := h
  have e1 : aL M b = n := by unfold aL; rw [h]
  have e2 : aQ M b = f := by unfold aQ; rw [h]
  rw [e1, e2]; exact h
theorem aI_of {M : gMem} {b : Nat} {r : Nat} {cA : ClassId} {n : Nat} {f : Nat → Int32} (h : M.1 b = some (r, .inl (cA, n, .inl f))) : aL M b = n ∧ aF M b = f := ⟨by unfold aL; rw [h], by unfold aF; rw [h]⟩
theorem aQ_of {M : gMem} {b : Nat} {r : Nat} {cA : ClassId} {n : Nat} {f : Nat → Option Nat} (h : M.1 b = some (r, .inl (cA, n, .inr (.inr (.inr (.inr f)))))) : aL M b = n ∧ aQ M b = f := ⟨by unfold aL; rw [h], by unfold aQ; rw [h]⟩
theorem Ext.aI {W V : List (Nat × Nat)} {al : Bool} {M M1 : gMem} (h : Ext W V al M M1) {cA : ClassId} {b : Nat} (ha : aIk cA M b) : aIk cA M1 b ∧ aL M1 b = aL M b := by
  obtain ⟨f', e1, -⟩ := h.int b _ _ _ ha.eq
  exact ⟨⟨_, _, e1⟩, (aI_of e1).1⟩
theorem Ext.xaF {W V : List (Nat × Nat)} {al : Bool} {M M1 : gMem} (h : Ext W V al M M1) {cA : ClassId} {b : Nat} (ha : aIk cA M b) (hv : NotV V M b) : aF M1 b = aF M b := by
  obtain ⟨f', e1, e2⟩ := h.int b _ _ _ ha.eq
  rw [(aI_of e1).2, e2 hv]
theorem Ext.aR {W V : List (Nat × Nat)} {al : Bool} {M M1 : gMem} (h : Ext W V al M M1) {cA : ClassId} {b : Nat} (ha : aQk cA M b) : aQk cA M1 b ∧ aL M1 b = aL M b := by
  obtain ⟨f', e1, -⟩ := h.ref b _ _ _ ha.eq
  exact ⟨⟨_, _, e1⟩, (aQ_of e1).1⟩
theorem Ext.xaQ {W V : List (Nat × Nat)} {al : Bool} {M M1 : gMem} (h : Ext W V al M M1) {cA : ClassId} {b : Nat} (ha : aQk cA M b) (hv : NotV V M b) : aQ M1 b = aQ M b := by
  obtain ⟨f', e1, e2⟩ := h.ref b _ _ _ ha.eq
  rw [(aQ_of e1).2, e2 hv]
end
section
/-! pure rows, the class: the single writes -/
theorem cO_gup {M : gMem} {a : Nat} {ci : Nat} {fs : List Value} {r : Nat} : cO (gup M a (r, .inr (ci, fs))) a = fs := cO_of gup_s
theorem cO_ne {M : gMem} {a b : Nat} {x : Nat × va_E} (h : b ≠ a) : cO (gup M a x) b = cO M b := by unfold cO; rw [gup_n h]
theorem gup_of {M : gMem} {a b : Nat} {x y : Nat × va_E} (h : (gup M a x).1 b = some y) : (b = a ∧ y = x) ∨ (b ≠ a ∧ M.1 b = some y) := by
  by_cases hb : b = a
  · subst hb; rw [gup_s] at h; exact Or.inl ⟨rfl, (Option.some.inj h).symm⟩
  · rw [gup_n hb] at h; exact Or.inr ⟨hb, h⟩
theorem cQ_ne {M : gMem} {a b k : Nat} {x : Nat × va_E} (h : b ≠ a) : cQ (gup M a x) b k = cQ M b k := by unfold cQ; rw [cO_ne h]
theorem cI_ne {M : gMem} {a b k : Nat} {x : Nat × va_E} (h : b ≠ a) : cI (gup M a x) b k = cI M b k := by unfold cI; rw [cO_ne h]
theorem cwt.set {ci k : Nat} {fs : List Value} {v : Value} (h : cwt ci fs) (h2 : (ckd ci).getD k 0 = 2 → ∃ r : Option Nat, v = va_rf r) (h3 : (ckd ci).getD k 0 ≠ 2 → ∃ x : Int32, v = .int x) : cwt ci (fs.set k v) := by
  refine ⟨by rw [List.length_set]; exact h.1, fun j hj => ?_⟩
  rw [List.length_set] at hj
  by_cases hk : j = k
  · subst hk
    rw [List.getElem?_set_self hj]
    exact ⟨fun z => (h2 z).imp fun r e => by rw [e], fun z => (h3 z).imp fun r e => by rw [e]⟩
  · rw [List.getElem?_set_ne (Ne.symm hk)]
    exact h.2 j hj
theorem MOk.gup {M : gMem} (h : MOk M) {a : Nat} {x y : Nat × va_E} (ha : M.1 a = some y) : MOk (gup M a x) := fun b hb => by
  have h1 := h.lt ha
  have hb' : M.2.1 ≤ b := hb
  rw [gup_n (by omega)]
  exact h b hb
theorem Ext.put {W V : List (Nat × Nat)} {al : Bool} {M0 M : gMem} (h : Ext W V al M0 M) {ci a k : Nat} {v : Value} (ho : cOk ci M a) (hW : (ci, k) ∈ W) (h2 : (ckd ci).getD k 0 = 2 → ∃ r : Option Nat, v = va_rf r) (h3 : (ckd ci).getD k 0 ≠ 2 → ∃ x : Int32, v = .int x) (hown : (ci, k) ∈ OWN → ∀ b, v = .ref b → M0.2.1 ≤ b ∧ b < M.2.1) : Ext W V al M0 (cP ci M a k v) := by
  obtain ⟨fs, e1, e2⟩ := ho
  have ec : cO M a = fs := cO_of e1
  have vr : ∀ (j c : Nat), cQ (gup M a (1, .inr (ci, fs.set k v))) a j = some c → (j = k ∧ v = .ref c) ∨ (j ≠ k ∧ cQ M a j = some c) := by
    intro j c hq
    unfold cQ at hq
    rw [cO_gup] at hq
    by_cases hk : j = k
    · subst hk
      refine Or.inl ⟨rfl, ?_⟩
      by_cases hl : j < fs.length
      · rw [List.getElem?_set_self hl] at hq
        unfold vQ at hq
        split at hq
        · rename_i z hz; cases hz; cases hq; rfl
        · cases hq
      · rw [List.getElem?_eq_none (by rw [List.length_set]; omega)] at hq; cases hq
    · rw [List.getElem?_set_ne (Ne.symm hk)] at hq
      exact Or.inr ⟨hk, by unfold cQ; rw [ec]; exact hq⟩
  unfold cP
  rw [ec]
  refine ⟨?_, ?_, ?_, ?_, h.sz, ?_, ?_, ?_, h.ok.gup e1⟩
  · intro hw b x hx hr
    have := h.oth hw b x hx hr
    rw [gup_n (fun q => by subst q; rw [e1] at this; cases this; exact hr rfl)]
    exact this
  · intro b cj gs hx
    obtain ⟨g1, q1, q2, q3⟩ := h.obj b cj gs hx
    by_cases hb : b = a
    · subst hb
      rw [e1] at q1
      cases q1
      refine ⟨_, gup_s, fun z => (q2 z).set h2 h3, fun j hj => ?_⟩
      rw [List.getElem?_set_ne (fun q => by subst q; exact hj hW)]
      exact q3 j hj
    · exact ⟨g1, by rw [gup_n hb]; exact q1, q2, q3⟩
  · intro b cA n f hx
    obtain ⟨f1, q1, q2⟩ := h.int b cA n f hx
    exact ⟨f1, by rw [gup_n (fun q => by subst q; rw [e1] at q1; cases q1)]; exact q1, q2⟩
  · intro b cA n f hx
    obtain ⟨f1, q1, q2⟩ := h.ref b cA n f hx
    exact ⟨f1, by rw [gup_n (fun q => by subst q; rw [e1] at q1; cases q1)]; exact q1, q2⟩
  · intro b hb hb'
    by_cases q : b = a
    · subst q; exact h.fresh b hb (by rw [e1]; simp)
    · rw [gup_n q] at hb'; exact h.fresh b hb hb'
  · intro b c cj j hj hb hq hc
    by_cases q : b = a
    · subst q
      obtain ⟨gs, g1, g2⟩ := hb
      rw [gup_s] at g1
      cases g1
      rcases vr j c hq with ⟨rfl, hv⟩ | ⟨-, hq⟩
      · exact absurd (hown hj c hv).1 (by omega)
      · exact h.own b c ci j hj ⟨fs, e1, e2⟩ hq hc
    · rw [cQ_ne q] at hq
      obtain ⟨gs, g1, g2⟩ := hb
      rw [gup_n q] at g1
      exact h.own b c cj j hj ⟨gs, g1, g2⟩ hq hc
  · intro b c cj j hj hb hq
    show c < M.2.1 ∨ _
    by_cases q : b = a
    · subst q
      obtain ⟨gs, g1, g2⟩ := hb
      rw [gup_s] at g1
      cases g1
      rcases vr j c hq with ⟨rfl, hv⟩ | ⟨-, hq⟩
      · exact Or.inl (hown hj c hv).2
      · exact h.bnd b c ci j hj ⟨fs, e1, e2⟩ hq
    · rw [cQ_ne q] at hq
      obtain ⟨gs, g1, g2⟩ := hb
      rw [gup_n q] at g1
      exact h.bnd b c cj j hj ⟨gs, g1, g2⟩ hq
theorem Ext.putI {W V : List (Nat × Nat)} {al : Bool} {M0 M : gMem} (h : Ext W V al M0 M) {ci a : Nat} (k : Nat) {x : Int32} (ho : cOk ci M a) (hW : W.contains (ci, k) = true) (h2 : (ckd ci).getD k 0 ≠ 2) : Ext W V al M0 (cP ci M a k (.int x)) :=
  h.put ho (by simpa using hW) (fun z => (h2 z).elim) (fun _ => ⟨x, rfl⟩) (fun _ b hb => by cases hb)
theorem Ext.putQ {W V : List (Nat × Nat)} {al : Bool} {M0 M : gMem} (h : Ext W V al M0 M) {ci a : Nat} (k : Nat) {r : Option Nat} (ho : cOk ci M a) (hW : W.contains (ci, k) = true) (h2 : (ckd ci).getD k 0 = 2) (hn : OWN.contains (ci, k) = false) : Ext W V al M0 (cP ci M a k (va_rf r)) :=
  h.put ho (by simpa using hW) (fun _ => ⟨r, rfl⟩) (fun z => (z h2).elim) (fun z => absurd z (by simpa using hn))
theorem Ext.putA {W V : List (Nat × Nat)} {al : Bool} {M0 M : gMem} (h : Ext W V al M0 M) {ci a b : Nat} (k : Nat) (ho : cOk ci M a) (hW : W.contains (ci, k) = true) (h2 : (ckd ci).getD k 0 = 2) (hb : M0.2.1 ≤ b) (hb2 : b < M.2.1) : Ext W V al M0 (cP ci M a k (va_rf (some b))) :=
  h.put ho (by simpa using hW) (fun _ => ⟨some b, rfl⟩) (fun z => (z h2).elim) (fun _ c hc => by cases hc; exact ⟨hb, hb2⟩)
/-- an array of ints is written: it is new, or a field of V names it -/
theorem Ext.arrI {W V : List (Nat × Nat)} {al : Bool} {M0 M : gMem} (hM : MOk M0) (h : Ext W V al M0 M) {cA : ClassId} {b : Nat} {f : Nat → Int32} (ha : aIk cA M b) (hb : M0.2.1 ≤ b ∨ ¬ NotV V M b) : Ext W V al M0 (gup M b (1, .inl (cA, aL M b, .inl f))) := by
  have e1 := ha.eq
  refine ⟨?_, ?_, ?_, ?_, h.sz, ?_, ?_, ?_, h.ok.gup e1⟩
  · intro hw c x hx hr
    have := h.oth hw c x hx hr
    rw [gup_n (fun q => by subst q; rw [e1] at this; cases this; exact hr rfl)]
    exact this
  · intro c cj gs hx
    obtain ⟨g1, q1, q2, q3⟩ := h.obj c cj gs hx
    exact ⟨g1, by rw [gup_n (fun q => by subst q; rw [e1] at q1; cases q1)]; exact q1, q2, q3⟩
  · intro c cB n g hx
    obtain ⟨f1, q1, q2⟩ := h.int c cB n g hx
    by_cases q : c = b
    · subst q
      rw [e1] at q1
      cases q1
      refine ⟨_, gup_s, fun hv => ?_⟩
      have hlt := hM.lt hx
      rcases hb with hb | hb
      · omega
      · exact absurd (h.notV hlt hv) hb
    · exact ⟨f1, by rw [gup_n q]; exact q1, q2⟩
  · intro c cB n g hx
    obtain ⟨f1, q1, q2⟩ := h.ref c cB n g hx
    exact ⟨f1, by rw [gup_n (fun q => by subst q; rw [e1] at q1; cases q1)]; exact q1, q2⟩
  · intro c hc hc'
    by_cases q : c = b
    · subst q; exact h.fresh c hc (by rw [e1]; simp)
    · rw [gup_n q] at hc'; exact h.fresh c hc hc'
  · intro c d cj j hj hc hq hd
    by_cases q : c = b
    · subst q
      obtain ⟨gs, g1, g2⟩ := hc
      rw [gup_s] at g1
      cases g1
    · rw [cQ_ne q] at hq
      obtain ⟨gs, g1, g2⟩ := hc
      rw [gup_n q] at g1
      exact h.own c d cj j hj ⟨gs, g1, g2⟩ hq hd
  · intro c d cj j hj hc hq
    show d < M.2.1 ∨ _
    by_cases q : c = b
    · subst q
      obtain ⟨gs, g1, g2⟩ := hc
      rw [gup_s] at g1
      cases g1
    · rw [cQ_ne q] at hq
      obtain ⟨gs, g1, g2⟩ := hc
      rw [gup_n q] at g1
      exact h.bnd c d cj j hj ⟨gs, g1, g2⟩ hq
theorem Ext.arrQ {W V : List (Nat × Nat)} {al : Bool} {M0 M : gMem} (hM : MOk M0) (h : Ext W V al M0 M) {cA : ClassId} {b : Nat} {f : Nat → Option Nat} (ha : aQk cA M b) (hb : M0.2.1 ≤ b ∨ ¬ NotV V M b) : Ext W V al M0 (gup M b (1, .inl (cA, aL M b, .inr (.inr (.inr (.inr f)))))) := by
  have e1 := ha.eq
  refine ⟨?_, ?_, ?_, ?_, h.sz, ?_, ?_, ?_, h.ok.gup e1⟩
  · intro hw c x hx hr
    have := h.oth hw c x hx hr
    rw [gup_n (fun q => by subst q; rw [e1] at this; cases this; exact hr rfl)]
    exact this
  · intro c cj gs hx
    obtain ⟨g1, q1, q2, q3⟩ := h.obj c cj gs hx
    exact ⟨g1, by rw [gup_n (fun q => by subst q; rw [e1] at q1; cases q1)]; exact q1, q2, q3⟩
  · intro c cB n g hx
    obtain ⟨f1, q1, q2⟩ := h.int c cB n g hx
    exact ⟨f1, by rw [gup_n (fun q => by subst q; rw [e1] at q1; cases q1)]; exact q1, q2⟩
  · intro c cB n g hx
    obtain ⟨f1, q1, q2⟩ := h.ref c cB n g hx
    by_cases q : c = b
    · subst q
      rw [e1] at q1
      cases q1
      refine ⟨_, gup_s, fun hv => ?_⟩
      have hlt := hM.lt hx
      rcases hb with hb | hb
      · omega
      · exact absurd (h.notV hlt hv) hb
    · exact ⟨f1, by rw [gup_n q]; exact q1, q2⟩
  · intro c hc hc'
    by_cases q : c = b
    · subst q; exact h.fresh c hc (by rw [e1]; simp)
    · rw [gup_n q] at hc'; exact h.fresh c hc hc'
  · intro c d cj j hj hc hq hd
    by_cases q : c = b
    · subst q
      obtain ⟨gs, g1, g2⟩ := hc
      rw [gup_s] at g1
      cases g1
    · rw [cQ_ne q] at hq
      obtain ⟨gs, g1, g2⟩ := hc
      rw [gup_n q] at g1
      exact h.own c d cj j hj ⟨gs, g1, g2⟩ hq hd
  · intro c d cj j hj hc hq
    show d < M.2.1 ∨ _
    by_cases q : c = b
    · subst q
      obtain ⟨gs, g1, g2⟩ := hc
      rw [gup_s] at g1
      cases g1
    · rw [cQ_ne q] at hq
      obtain ⟨gs, g1, g2⟩ := hc
      rw [gup_n q] at g1
      exact h.bnd c d cj j hj ⟨gs, g1, g2⟩ hq
theorem V_of {V : List (Nat × Nat)} {M : gMem} {ci a k : Nat} (hV : V.contains (ci, k) = true) (ho : OWN.contains (ci, k) = true) (h : cOk ci M a) (hq : cQ M a k = some ((cQ M a k).getD 0)) : ¬ NotV V M ((cQ M a k).getD 0) := fun z => z a ci k (by simpa using hV) (by simpa using ho) h hq
/-- a new cell -/
theorem Ext.new {W V : List (Nat × Nat)} {M0 M : gMem} (h : Ext W V true M0 M) {e : va_E} {n : Nat} (he : ∀ ci fs, e = .inr (ci, fs) → ∀ k b, (ci, k) ∈ OWN → vQ fs[k]? ≠ some b) : Ext W V true M0 (gnw M (1, e) n) := by
  have hN : M.1 M.2.1 = none := h.ok _ (Nat.le_refl _)
  refine ⟨?_, ?_, ?_, ?_, ⟨Nat.le_succ_of_le h.sz.1, Nat.le_trans h.sz.2.1 (Nat.le_add_right _ _), fun z => by cases z⟩, ?_, ?_, ?_, ?_⟩
  · intro hw b x hx hr
    have := h.oth hw b x hx hr
    rw [gnw_n (fun q => by subst q; rw [hN] at this; cases this)]
    exact this
  · intro b cj gs hx
    obtain ⟨g1, q1, q2, q3⟩ := h.obj b cj gs hx
    exact ⟨g1, by rw [gnw_n (fun q => by subst q; rw [hN] at q1; cases q1)]; exact q1, q2, q3⟩
  · intro b cB n g hx
    obtain ⟨f1, q1, q2⟩ := h.int b cB n g hx
    exact ⟨f1, by rw [gnw_n (fun q => by subst q; rw [hN] at q1; cases q1)]; exact q1, q2⟩
  · intro b cB n g hx
    obtain ⟨f1, q1, q2⟩ := h.ref b cB n g hx
    exact ⟨f1, by rw [gnw_n (fun q => by subst q; rw [hN] at q1; cases q1)]; exact q1, q2⟩
  · intro b hb hb'
    by_cases q : b = M.2.1
    · subst q; exact h.sz.1
    · rw [gnw_n q] at hb'; exact h.fresh b hb hb'
  · intro b c cj j hj hb hq hc
    obtain ⟨gs, g1, g2⟩ := hb
    by_cases q : b = M.2.1
    · subst q
      rw [gnw_s] at g1
      cases g1
      unfold cQ at hq
      rw [cO_of gnw_s] at hq
      exact absurd hq (he _ _ rfl j c hj)
    · rw [gnw_n q] at g1
      have : cQ (gnw M (1, e) n) b j = cQ M b j := by unfold cQ cO; rw [gnw_n q]
      rw [this] at hq
      exact h.own b c cj j hj ⟨gs, g1, g2⟩ hq hc
  · intro b c cj j hj hb hq
    show c < M.2.1 + 1 ∨ _
    obtain ⟨gs, g1, g2⟩ := hb
    by_cases q : b = M.2.1
    · subst q
      rw [gnw_s] at g1
      cases g1
      unfold cQ at hq
      rw [cO_of gnw_s] at hq
      exact absurd hq (he _ _ rfl j c hj)
    · rw [gnw_n q] at g1
      have : cQ (gnw M (1, e) n) b j = cQ M b j := by unfold cQ cO; rw [gnw_n q]
      rw [this] at hq
      exact (h.bnd b c cj j hj ⟨gs, g1, g2⟩ hq).imp_left Nat.lt_succ_of_lt
  · intro b hb
    have hb' : M.2.1 + 1 ≤ b := hb
    rw [gnw_n (by omega)]
    exact h.ok b (by omega)
theorem Ext.newA {W V : List (Nat × Nat)} {M0 M : gMem} (h : Ext W V true M0 M) {x : ClassId × vp_A} {n : Nat} : Ext W V true M0 (gnw M (1, .inl x) n) := h.new (fun _ _ z => by cases z)
/-- all fields are null or 0 -/
theorem Ext.newO {W V : List (Nat × Nat)} {M0 M : gMem} (h : Ext W V true M0 M) {ci n : Nat} {fs : List Value} (hz : fs.all (fun v => v == .null || v == .int 0) = true) : Ext W V true M0 (gnw M (1, .inr (ci, fs)) n) := h.new (fun cj gs z k b _ hq => by
  cases z
  cases hv : fs[k]? with
  | none => rw [hv] at hq; cases hq
  | some v =>
    rw [hv] at hq
    have := List.all_eq_true.mp hz v (List.mem_of_getElem? hv)
    simp only [Bool.or_eq_true, beq_iff_eq] at this
    rcases this with rfl | rfl <;> cases hq)
theorem Ext.xgsk {W V : List (Nat × Nat)} {M0 M : gMem} (h : Ext W V true M0 M) : Ext W V true M0 (gsk M) :=
  ⟨h.oth, h.obj, h.int, h.ref, ⟨Nat.le_succ_of_le h.sz.1, Nat.le_trans h.sz.2.1 (Nat.le_add_right _ _), fun z => by cases z⟩, h.fresh, fun a b ci k hk ho hq hb => h.own a b ci k hk ho hq hb, fun a b ci k hk ho hq => (h.bnd a b ci k hk ho hq).imp_left Nat.lt_succ_of_lt, fun b hb => h.ok b (Nat.le_of_succ_le hb)⟩
end
