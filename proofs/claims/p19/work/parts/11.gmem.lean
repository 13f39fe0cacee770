/-! gkit, part a: memory by addresses -/
/-- what is known of the cells (by address: a region number and the cell), how large the heap is, how many slots have come -/
abbrev gMem : Type := (Nat → Option (Nat × va_E)) × Nat × Nat
def gup (M : gMem) (a : Nat) (x : Nat × va_E) : gMem := (fun b => if b = a then some x else M.1 b, M.2)
def gnw (M : gMem) (x : Nat × va_E) (n : Nat) : gMem := (fun b => if b = M.2.1 then some x else M.1 b, M.2.1 + 1, M.2.2 + n)
theorem gup_s {M : gMem} {a : Nat} {x : Nat × va_E} : (gup M a x).1 a = some x := if_pos rfl
theorem gup_n {M : gMem} {a b : Nat} {x : Nat × va_E} (h : b ≠ a) : (gup M a x).1 b = M.1 b := if_neg h
theorem gnw_s {M : gMem} {x : Nat × va_E} {n : Nat} : (gnw M x n).1 M.2.1 = some x := if_pos rfl
theorem gnw_n {M : gMem} {b n : Nat} {x : Nat × va_E} (h : b ≠ M.2.1) : (gnw M x n).1 b = M.1 b := if_neg h
theorem gne {M : gMem} {a b : Nat} {x y : Nat × va_E} (h1 : M.1 a = some x) (h2 : M.1 b = some y) (h : x.1 ≠ y.1) : a ≠ b := fun q => by
  subst q
  rw [h1] at h2
  exact h (congrArg Prod.fst (Option.some.inj h2))
/-- keeps (M, M', rs): the cells of regions outside rs stay -/
def gFr (rs : List Nat) (M M' : gMem) : Prop := ∀ (a : Nat) (x : Nat × va_E), M.1 a = some x → x.1 ∉ rs → M'.1 a = some x
theorem gFr.rf {rs : List Nat} {M : gMem} : gFr rs M M := fun _ _ h _ => h
theorem gFr.trans {rs : List Nat} {M M1 M2 : gMem} (h1 : gFr rs M M1) (h2 : gFr rs M1 M2) : gFr rs M M2 := fun a x hx hr => h2 a x (h1 a x hx hr) hr
theorem gFr.up {rs : List Nat} {M : gMem} {a : Nat} {x y : Nat × va_E} (h : M.1 a = some x) (hr : x.1 ∈ rs) : gFr rs M (gup M a y) := fun b z hz hn => by
  rw [gup_n (fun q => by subst q; rw [h] at hz; cases hz; exact hn hr)]
  exact hz
theorem gFr.mono {rs rs' : List Nat} {M M' : gMem} (h : gFr rs M M') (hs : ∀ r, r ∈ rs → r ∈ rs') : gFr rs' M M' := fun a x hx hr => h a x hx (fun q => hr (hs _ q))
abbrev gA (B : Nat) : Nat → Prop := fun q => B ≤ q
def gR (D : va_G) (cl : List vw_C) (B : Nat) (M : gMem) (H : Heap) : Prop := (B ≤ H.size ∧ H.size = M.2.1) ∧ ∀ (a : Nat) (x : Nat × va_E), M.1 a = some x → B ≤ a ∧ va_at D cl (a, x.2) H
section GM
variable {D : va_G} {cl : List vw_C} {B : Nat} {M : gMem} {H H1 : Heap}
theorem gR.lt (h : gR D cl B M H) {a : Nat} {x : Nat × va_E} (ha : M.1 a = some x) : a < H.size := (h.2 a x ha).2.lt
theorem gR.put1 (h : gR D cl B M H) {a r : Nat} {x0 : Nat × va_E} {e : va_E} (ha : M.1 a = some x0) (he : va_at D cl (a, e) H1) (hz : H1.size = H.size) (oq : ∀ q : Nat, q ≠ a → H1[q]? = H[q]?) : gR D cl B (gup M a (r, e)) H1 := by
  refine ⟨⟨by rw [hz]; exact h.1.1, by rw [hz]; exact h.1.2⟩, fun b x hb => ?_⟩
  by_cases hba : b = a
  · subst hba
    rw [gup_s] at hb
    cases hb
    exact ⟨(h.2 b x0 ha).1, he⟩
  · rw [gup_n hba] at hb
    exact ⟨(h.2 b x hb).1, (h.2 b x hb).2.kept (oq b hba)⟩
theorem gR.new1 (h : gR D cl B M H) {r n : Nat} {e : va_E} (he : va_at D cl (H.size, e) H1) (hz : H1.size = H.size + 1) (oq : ∀ q : Nat, q < H.size → H1[q]? = H[q]?) : gR D cl B (gnw M (r, e) n) H1 := by
  refine ⟨⟨by rw [hz]; exact Nat.le_succ_of_le h.1.1, by rw [hz, h.1.2]; rfl⟩, fun b x hb => ?_⟩
  by_cases hba : b = M.2.1
  · subst hba
    rw [gnw_s] at hb
    cases hb
    rw [h.1.2] at he
    exact ⟨by rw [← h.1.2]; exact h.1.1, he⟩
  · rw [gnw_n hba] at hb
    exact ⟨(h.2 b x hb).1, (h.2 b x hb).2.kept (oq b (h.lt hb))⟩
theorem gR.kept (h : gR D cl B M H) {M' : gMem} (h1 : M'.1 = M.1) (hz : H1.size = M'.2.1) (hB : B ≤ H1.size) (hk : ∀ q : Nat, q < H.size → H1[q]? = H[q]?) : gR D cl B M' H1 := ⟨⟨hB, hz⟩, fun a x hx => by
  rw [h1] at hx
  exact ⟨(h.2 a x hx).1, (h.2 a x hx).2.kept (hk a (h.lt hx))⟩⟩
end GM
/-! locals by their numbers -/
def lvg (lv : List (Nat × Value)) (i : Nat) : Option Value := (lv.find? (fun q => q.1 == i)).map (·.2)
theorem lvg_at {ls : Array Slot} {nL : Nat} {lv : List (Nat × Value)} (h : lv_has ls nL lv) {i : Nat} {v : Value} (hg : lvg lv i = some v) : ls[i]? = some (.val v) := by
  unfold lvg at hg
  cases hf : lv.find? (fun q => q.1 == i) with
  | none => rw [hf] at hg; cases hg
  | some q =>
    rw [hf] at hg
    have h1 := h.2.2 q (List.mem_of_find?_eq_some hf)
    have h2 := List.find?_some hf
    have h3 : q.1 = i := by simpa using h2
    have h4 : q.2 = v := Option.some.inj hg
    rw [← h3, ← h4]
    exact h1
def lvs (lv : List (Nat × Value)) (i : Nat) (v : Value) : List (Nat × Value) := (i, v) :: lv.filter (fun q => !(q.1 == i) && !(q.1 + 1 == i && q.2.category == 2))
