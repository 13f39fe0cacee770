/-! gkit, part a: memory by addresses (a region number and a cell), and worlds out of it -/
abbrev gMem : Type := Nat → Option (Nat × va_E)
def gup (M : gMem) (a : Nat) (x : Nat × va_E) : gMem := fun b => if b = a then some x else M b
theorem gup_s {M : gMem} {a : Nat} {x : Nat × va_E} : gup M a x a = some x := if_pos rfl
theorem gup_n {M : gMem} {a b : Nat} {x : Nat × va_E} (h : b ≠ a) : gup M a x b = M b := if_neg h
theorem gne {M : gMem} {a b : Nat} {x y : Nat × va_E} (h1 : M a = some x) (h2 : M b = some y) (h : x.1 ≠ y.1) : a ≠ b := fun q => by
  subst q
  rw [h1] at h2
  exact h (congrArg Prod.fst (Option.some.inj h2))
/-- keeps (M, M', rs): the cells of regions outside rs stay -/
def gFr (rs : List Nat) (M M' : gMem) : Prop := ∀ (a : Nat) (x : Nat × va_E), M a = some x → x.1 ∉ rs → M' a = some x
theorem gFr.rf {rs : List Nat} {M : gMem} : gFr rs M M := fun _ _ h _ => h
theorem gFr.trans {rs : List Nat} {M M1 M2 : gMem} (h1 : gFr rs M M1) (h2 : gFr rs M1 M2) : gFr rs M M2 := fun a x hx hr => h2 a x (h1 a x hx hr) hr
theorem gFr.up {rs : List Nat} {M : gMem} {a : Nat} {x y : Nat × va_E} (h : M a = some x) (hr : x.1 ∈ rs) : gFr rs M (gup M a y) := fun b z hz hn => by
  rw [gup_n (fun q => by subst q; rw [h] at hz; cases hz; exact hn hr)]
  exact hz
theorem gFr.new {rs : List Nat} {M : gMem} {a : Nat} {y : Nat × va_E} (h : M a = none) : gFr rs M (gup M a y) := fun b z hz _ => by
  rw [gup_n (fun q => by subst q; rw [h] at hz; cases hz)]
  exact hz
theorem gFr.mono {rs rs' : List Nat} {M M' : gMem} (h : gFr rs M M') (hs : ∀ r, r ∈ rs → r ∈ rs') : gFr rs' M M' := fun a x hx hr => h a x hx (fun q => hr (hs _ q))
def gR (D : va_G) (cl : List vw_C) (B : Nat) (M : gMem) (H : Heap) : Prop := B ≤ H.size ∧ ∀ (a : Nat) (x : Nat × va_E), M a = some x → B ≤ a ∧ va_at D cl (a, x.2) H
abbrev gA (B : Nat) : Nat → Prop := fun q => B ≤ q
theorem gA_last {B q : Nat} {e : va_E} {ws : va_W} (hD : va_D (gA B) (ws ++ [(q, e)])) : B ≤ q := hD.2 ws.length (q, e) (by simp)
def gCov (M : gMem) (ws : va_W) : Prop := ∀ (a : Nat) (x : Nat × va_E), M a = some x → ∃ k : Nat, ws[k]? = some (a, x.2)
section GM
variable {D : va_G} {cl : List vw_C} {B : Nat} {M : gMem} {H H1 : Heap}
theorem gR.lt (h : gR D cl B M H) {a : Nat} {x : Nat × va_E} (ha : M a = some x) : a < H.size := (h.2 a x ha).2.lt
theorem gR.ws (h : gR D cl B M H) : ∃ ws : va_W, va_P D cl ws H ∧ va_D (fun q => B ≤ q) ws ∧ gCov M ws := by
  have hf : ∀ (a : Nat) (q : Nat × va_E), ((M a).map fun x => (a, x.2)) = some q → ∃ x, M a = some x ∧ q = (a, x.2) := by
    intro a q hq
    cases hM : M a with
    | none => rw [hM] at hq; cases hq
    | some x => rw [hM] at hq; exact ⟨x, rfl, (Option.some.inj hq).symm⟩
  refine ⟨(List.range H.size).filterMap (fun a => (M a).map fun x => (a, x.2)), ?_, ⟨?_, ?_⟩, ?_⟩
  · intro k q hk
    obtain ⟨a, -, ha⟩ := List.mem_filterMap.mp (List.mem_of_getElem? hk)
    obtain ⟨x, hx, rfl⟩ := hf a q ha
    exact (h.2 a x hx).2
  · intro i j u v hi hj huv
    have hnd : List.Pairwise (fun (x y : Nat × va_E) => x.1 < y.1) ((List.range H.size).filterMap (fun a => (M a).map fun x => (a, x.2))) := by
      refine List.Pairwise.filterMap _ ?_ List.pairwise_lt_range
      intro a a' haa b hb b' hb'
      obtain ⟨x, -, rfl⟩ := hf a b hb
      obtain ⟨x', -, rfl⟩ := hf a' b' hb'
      exact haa
    rw [List.pairwise_iff_getElem] at hnd
    obtain ⟨li, ei⟩ := List.getElem?_eq_some_iff.mp hi
    obtain ⟨lj, ej⟩ := List.getElem?_eq_some_iff.mp hj
    rcases Nat.lt_trichotomy i j with h1 | h1 | h1
    · have := hnd i j li lj h1
      rw [ei, ej, huv] at this
      exact absurd this (Nat.lt_irrefl _)
    · exact h1
    · have := hnd j i lj li h1
      rw [ei, ej, huv] at this
      exact absurd this (Nat.lt_irrefl _)
  · intro k q hk
    obtain ⟨a, -, ha⟩ := List.mem_filterMap.mp (List.mem_of_getElem? hk)
    obtain ⟨x, hx, rfl⟩ := hf a q ha
    exact (h.2 a x hx).1
  · intro a x hx
    refine List.getElem?_of_mem (List.mem_filterMap.mpr ⟨a, List.mem_range.mpr (h.lt hx), ?_⟩)
    rw [hx]
    rfl
theorem gR.set (h : gR D cl B M H) {ws : va_W} (hc : gCov M ws) {q0 a r : Nat} {e0 e : va_E} (hp : ws[q0]? = some (a, e0)) (hA : B ≤ a) (hP : va_P D cl (ws.set q0 (a, e)) H1) (hB : B ≤ H1.size) : gR D cl B (gup M a (r, e)) H1 := by
  refine ⟨hB, fun b x hb => ?_⟩
  by_cases hba : b = a
  · subst hba
    rw [gup_s] at hb
    cases hb
    exact ⟨hA, hP q0 _ (List.getElem?_set_self (List.getElem?_eq_some_iff.mp hp).1)⟩
  · rw [gup_n hba] at hb
    obtain ⟨k, hk⟩ := hc b x hb
    have hne : q0 ≠ k := fun q => by
      subst q
      rw [hp] at hk
      exact hba (congrArg Prod.fst (Option.some.inj hk)).symm
    exact ⟨(h.2 b x hb).1, hP k (b, x.2) (by rw [List.getElem?_set_ne hne]; exact hk)⟩
theorem gR.add (h : gR D cl B M H) {ws : va_W} (hc : gCov M ws) {q r : Nat} {e : va_E} {A : Nat → Prop} (hP : va_P D cl (ws ++ [(q, e)]) H1) (hD : va_D A (ws ++ [(q, e)])) (hq : B ≤ q) (hB : B ≤ H1.size) : gR D cl B (gup M q (r, e)) H1 ∧ M q = none := by
  have hlast : (ws ++ [(q, e)])[ws.length]? = some (q, e) := by simp
  have hold : ∀ (k : Nat) (y : Nat × va_E), ws[k]? = some y → (ws ++ [(q, e)])[k]? = some y := fun k y hk => by
    rw [List.getElem?_append_left (List.getElem?_eq_some_iff.mp hk).1]
    exact hk
  refine ⟨⟨hB, fun b x hb => ?_⟩, ?_⟩
  · by_cases hba : b = q
    · subst hba
      rw [gup_s] at hb
      cases hb
      exact ⟨hq, hP _ _ hlast⟩
    · rw [gup_n hba] at hb
      obtain ⟨k, hk⟩ := hc b x hb
      exact ⟨(h.2 b x hb).1, hP k (b, x.2) (hold k _ hk)⟩
  · cases hM : M q with
    | none => rfl
    | some x =>
      obtain ⟨k, hk⟩ := hc q x hM
      have h1 := hD.1 k ws.length _ _ (hold k _ hk) hlast rfl
      have h2 := (List.getElem?_eq_some_iff.mp hk).1
      omega
/-- less is known -/
theorem gR.less (h : gR D cl B M H) {M' : gMem} (hs : ∀ a x, M' a = some x → M a = some x) : gR D cl B M' H := ⟨h.1, fun a x hx => h.2 a x (hs a x hx)⟩
theorem gR.kept (h : gR D cl B M H) (hB : B ≤ H1.size) (hk : ∀ q : Nat, q < H.size → H1[q]? = H[q]?) : gR D cl B M H1 := ⟨hB, fun a x hx => ⟨(h.2 a x hx).1, (h.2 a x hx).2.kept (hk a (h.lt hx))⟩⟩
end GM
/-! locals by their numbers -/
def lvg (lv : List (Nat × Value)) (i : Nat) : Option Value := (lv.find? (fun q => q.1 == i)).map (·.2)
theorem lvg_at {ls : Array Slot} {nL : Nat} {lv : List (Nat × Value)} (h : lv_has ls nL lv) {i : Nat} {v : Value} (hg : lvg lv i = some v) : ls[i]? = some (.val v) := by
  unfold lvg at hg
  cases hf : lv.find? (fun q => q.1 == i) with
  | none => rw [hf] at hg; cases hg
  | some q =>
    rw [hf] at hg
    have h1 := h.2.2 q (List.mem_of_find?_eq_some hf)
    have h2 := List.find?_some hf
    have h3 : q.1 = i := by simpa using h2
    have h4 : q.2 = v := Option.some.inj hg
    rw [← h3, ← h4]
    exact h1
def lvs (lv : List (Nat × Value)) (i : Nat) (v : Value) : List (Nat × Value) := (i, v) :: lv.filter (fun q => !(q.1 == i) && !(q.1 + 1 == i && q.2.category == 2))
