/-! the law's rows: what is left of a memory after the reference's call; the script -/
def rs (M M' : gMem) : gMem := (fun a => if (M.1 a).map Prod.fst = (M'.1 a).map Prod.fst then M'.1 a else none, M'.2)
section LR
variable {D : va_G} {cl : List vw_C} {B : Nat} {M M' : gMem} {H : Jvm.Heap} {cs : Nat → ClassId} {mo : Nat} {ad : Nat → Nat} {σ σ' : mSt}
theorem rs_gR (h : gR D cl B M' H) : gR D cl B (rs M M') H := ⟨h.1, fun a x hx => by
  have hx' : (if (M.1 a).map Prod.fst = (M'.1 a).map Prod.fst then M'.1 a else none) = some x := hx
  split at hx'
  · exact h.2 a x hx'
  · cases hx'⟩
theorem rs_at {a : Nat} {x y : Nat × va_E} (h : M.1 a = some x) (h' : M'.1 a = some y) (e : x.1 = y.1) : (rs M M').1 a = some y := by
  show (if (M.1 a).map Prod.fst = (M'.1 a).map Prod.fst then M'.1 a else none) = some y
  rw [h, h', Option.map_some, Option.map_some, if_pos (by rw [e])]
theorem rs_none {a : Nat} (h : M.1 a = none) : (rs M M').1 a = none := by
  show (if (M.1 a).map Prod.fst = (M'.1 a).map Prod.fst then M'.1 a else none) = none
  rw [h]
  cases e : M'.1 a with
  | none => simp
  | some y => simp
theorem rs_keep (hf : gFr moR M M') {a : Nat} {x : Nat × va_E} (h : M.1 a = some x) (hx : x.1 ∉ moR) : (rs M M').1 a = some x := rs_at h (hf a x h hx) rfl
theorem one_moR : (1 : Nat) ∉ moR := by decide
theorem two_moR : (2 : Nat) ∉ moR := by decide
theorem rs_rep (h : RepMo cs mo ad σ M) (h' : RepMo cs mo ad σ' M') : RepMo cs mo ad σ' (rs M M') := ⟨rs_at h.1 h'.1 rfl, fun k hk ha => rs_at (h.2 k hk ha) (h'.2 k hk ha) rfl⟩
theorem rs_stl (hM : MOk M) (hf : gFr moR M M') (hs : M'.2 = M.2) : Stl M (rs M M') := by
  refine ⟨fun a y h1 h2 => rs_keep hf h1 (by rw [h2]; exact one_moR), fun a y h1 h2 => ?_, fun a h1 h2 => (h2 (rs_none h1)).elim, ⟨by show M.2.1 ≤ M'.2.1; rw [hs]; exact Nat.le_refl _, by show M.2.2 ≤ M'.2.2; rw [hs]; exact Nat.le_refl _⟩, fun a ha => rs_none (hM a (by have : M'.2.1 ≤ a := ha; rw [hs] at this; exact this))⟩
  have h3 : (if (M.1 a).map Prod.fst = (M'.1 a).map Prod.fst then M'.1 a else none) = some y := h1
  split at h3
  · rename_i hc
    rw [h3, Option.map_some] at hc
    cases e : M.1 a with
    | none => rw [e] at hc; cases hc
    | some z =>
      rw [e, Option.map_some] at hc
      have hz : z.1 = y.1 := Option.some.inj hc
      have h4 := hf a z e (by rw [hz, h2]; exact one_moR)
      rw [h3] at h4
      exact h4.symm
  · cases h3
theorem RepMo.oth (h : RepMo cs mo ad σ M) (o : Oth M M') : RepMo cs mo ad σ M' := ⟨o _ _ h.1 (by show (600 : Nat) ≠ 1; decide), fun k hk ha => o _ _ (h.2 k hk ha) (by show 601 + k ≠ 1; omega)⟩
theorem RepMo.up (h : RepMo cs mo ad σ M) {o : Nat} {x y : Nat × va_E} (ho : M.1 o = some x) (hx : x.1 < 600) : RepMo cs mo ad σ (gup M o y) := by
  have ne : ∀ a z, M.1 a = some z → 600 ≤ z.1 → a ≠ o := fun a z h1 h2 e => by
    subst e
    rw [h1] at ho
    cases ho
    omega
  refine ⟨by rw [gup_n (ne _ _ h.1 (Nat.le_refl _))]; exact h.1, fun k hk ha => ?_⟩
  rw [gup_n (ne _ _ (h.2 k hk ha) (by show 600 ≤ 601 + k; omega))]
  exact h.2 k hk ha
end LR
section LS
variable {p : Program} {l : Launch} {e : Env} {R : Room} {s : State} {m : MethodId} {args : Array Value} {below : List Frame} {meth : Method} {c : Code} {nL : Nat} {D : va_G} {cs : Nat → ClassId} {B : Nat} {dE : Nat × Nat} {A : Nat → Prop} {Q : State → Prop} {M M0 : gMem} {lim : Nat × Nat} {pc : Nat} {lv : List (Nat × Value)} {cc : ByteArray} {own : String} {P : Jvm.Heap → Prop} {cells slots : Nat} {st : List Value} {mo : Nat} {ad : Nat → Nat} {σ : mSt} {Ts : List Cond}
theorem g_sld (C : CallFix p m c cc nL s args Ts own) {b L : Nat} {xs : Nat → Int32} (hX : va_X b L xs s s.heap) (hbl : b < s.heap.size) (hbA : ¬ A b) {i : Int32} (hin : vp_in i L) (hd : decode cc pc = .ok (.iaload, 1)) (k : GW p l e R s m args below meth c nL A Q P cells slots (pc + 1) lv (.int (xs i.toNatClampNeg) :: st)) : GW p l e R s m args below meth c nL A Q P cells slots pc lv (.int i :: .ref b :: st) := fun H locs ls hR hS hl => va_sld C.1 C.2.1 hX hbl hbA hS hin hd (k H locs ls hR hS hl)
theorem g_slen (C : CallFix p m c cc nL s args Ts own) {b L : Nat} {xs : Nat → Int32} (hX : va_X b L xs s s.heap) (hbl : b < s.heap.size) (hbA : ¬ A b) (hd : decode cc pc = .ok (.arraylength, 1)) (k : GW p l e R s m args below meth c nL A Q P cells slots (pc + 1) lv (.int (Int32.ofNat L) :: st)) : GW p l e R s m args below meth c nL A Q P cells slots pc lv (.ref b :: st) := fun H locs ls hR hS hl => va_slen C.1 C.2.1 hX hbl hbA hS hd (k H locs ls hR hS hl)
/-- the reference is called from the law -/
theorem l_callM {y : MethodName} {ml fr lo : Nat} {ret : Option FieldType} {bytes : ByteArray} {av rest : List Value} {n index : Nat} {K1 : Option Value → mSt → Prop} (C : CallFix p m c cc nL s args gT own) (hE : gEnv D gcl (gtys cs) gz B dE s) (hRm : R.cells = lim.1 - M0.2.1 ∧ R.slots = lim.2 - M0.2.2) (hle : cLe lim M0 M) (hok : MOk M) (hrep : RepMo cs mo ad σ M) (hM1 : mMet l y (Cond.code y bytes ml ret) ({ frames := fr, cells := 0, slots := 0, locals := lo } : Room) D cs B dE mo ad (.ref mo :: av) σ K1)
    (hlink : Cond.methodLink own index y ∈ gT) (hinst : Cond.instanceMethod y ∈ gT) (hsel : Cond.selects R_Mo y y ∈ gT) (hcode : Cond.code y bytes ml ret ∈ gT)
    (hy : y.cls = R_Mo ∧ y.cls ≠ "java/lang/invoke/MethodHandle" ∧ y.cls ≠ "java/lang/invoke/VarHandle" ∧ (parseMethodDescriptor y.desc).map (fun d => d.parameters.length) = some n) (hlen : av.length = n) (hfr : fr + 1 ≤ R.frames) (hlo : 8 + (ml + 11) + lo ≤ R.locals)
    (hd : decode cc pc = .ok (.invokevirtual index, 3)) (hroom : (rest.map fun v => v.category).sum ≤ 8) {st0 : List Value} (hst : st0 = av.reverse ++ .ref mo :: rest)
    (kr : ∀ (v : Option Value) (σ' : mSt) (M' : gMem), K1 v σ' → RepMo cs mo ad σ' M' → Stl M M' → M'.2 = M.2 → (∀ a x, M.1 a = some x → x.1 ∉ moR → M'.1 a = some x) → cLe lim M0 M' → GW p l e R s m args below meth c nL (gA B) Q (gR D gcl B M') (M'.2.1 - M0.2.1) (M'.2.2 - M0.2.2) (pc + 3) lv (v.toList ++ rest)) : GW p l e R s m args below meth c nL (gA B) Q (gR D gcl B M) (M.2.1 - M0.2.1) (M.2.2 - M0.2.2) pc lv st0 := by
  subst hst
  obtain ⟨l1, l2, l3, l4⟩ := id hle
  refine g_call C hE (fun _ h => h) (hM1 M hrep) (fun _ h => h) (gT_goodc hcode) (gcode_of C.2.2.2.2 (fun w hw => by rw [List.mem_singleton.mp hw]; exact gT_good _ hcode)) (by rw [hy.1]; exact ki_Mo) hfr hlo (by rw [hRm.1]; show _ + 0 ≤ _; omega) (by rw [hRm.2]; show _ + 0 ≤ _; omega) hd hroom ?_ ?_ ?_
  · intro H ls hR
    obtain ⟨cellB, hc1, hc2, hc3⟩ := g_recv hE.1 hR (ci := 12) (q := (R_Mo, F_Mo, 67)) rfl hrep.1
    exact Front.V C.1 C.2.2.2.1 (C.2.2.2.2 _ hlink) (C.2.2.2.2 _ hinst) (C.2.2.2.2 _ hsel) (C.2.2.2.2 _ hcode) ⟨hy.2.1, hy.2.2.1⟩ hc1 hc2 hc3 rfl (fun sig h => by
      have h2 := hy.2.2.2
      rw [h] at h2
      rw [hlen]
      exact (Option.some.inj h2).symm) rfl (by rw [C.2.1]; exact hd)
  · intro v M' k n' hP1
    obtain ⟨rfl, rfl, r, σ', hx, hK, hT⟩ := hP1
    cases hx
    have e2 : (rs M M').2 = M.2 := hT.2.2
    have kk := kr v σ' (rs M M') hK (rs_rep hrep hT.1) (rs_stl hok hT.2.1 hT.2.2) e2 (fun a x h1 h2 => rs_keep hT.2.1 h1 h2) (by unfold cLe; rw [e2]; exact hle)
    rw [e2] at kk
    rw [Nat.add_zero, Nat.add_zero]
    exact fun H locs ls hR hS hl => kk H locs ls (rs_gR hR) hS hl
  · intro E M' k n' hP1
    obtain ⟨-, -, r, σ', hx, -⟩ := hP1
    cases hx
end LS
