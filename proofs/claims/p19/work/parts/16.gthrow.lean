/-! gkit, part f: throw new E("..") -/
theorem gz_static {C n d : String} {A : Nat → Prop} {U : State} {args : Array Value} {v : Value} (h : va_Z C n d v A U U.heap) : (Term.static C n d).eval args U none [] U = some v := by
  obtain ⟨cf, kf, fi, f, a, cell, h1, h2, h3, h4, h5, h6, h7, h8⟩ := h
  simp [Term.eval, State.fieldNamed?, h1, h2, h4, h5, h6, h7]
theorem gz_isref {C n d : String} {A : Nat → Prop} {U : State} {args : Array Value} (h : va_Zq C n d A U U.heap) : (Cond.isRef (.static C n d)).before args U = true := by
  rcases h with h | ⟨t, h⟩
  · have e1 := gz_static (args := args) h
    simp [Cond.before, Cond.holds, Cond.value, e1]
  · have e1 := gz_static (args := args) h
    simp [Cond.before, Cond.holds, Cond.value, e1]
section GT1
variable {p : Program} {l : Launch} {e : Env} {R : Room} {s : State} {m : MethodId} {args : Array Value} {below : List Frame} {meth : Method} {c : Code} {nL : Nat} {D : va_G} {cl : List vw_C} {B : Nat} {dE : Nat × Nat} {M : gMem} {cells slots pc : Nat} {lv : List (Nat × Value)} {st : List Value} {cc : ByteArray} {Ts : List Cond} {own : String} {tys : List (ClassId × FieldType)} {zs : List Cond} {Post : gOut → gMem → Nat → Nat → Prop} {H : Heap} {locs : List Loc} {ls : Array Slot} {Q : State → Prop}
theorem W.ldcwS (hexec : p.tables.exec = Jvm.exec) (hb : c.code = cc) {tx : String} {index q : Nat} (hown : s.vm.findClass own = some m.cls) (hZ : vk_R own index tx q s) (hdg : decode cc pc = .ok (.ldc_w index, 3))
    (k : W p l e R s m args below meth c H locs cells slots Q (F0 m (pc + 3) ls (.ref q :: st))) : W p l e R s m args below meth c H locs cells slots Q (F0 m pc ls st) := by
  intro T hT X
  obtain ⟨t, a1, b1⟩ := k T hT X
  refine ⟨t, ?_, b1⟩
  obtain ⟨k0, cf, i, a', hk, hcf, hcp, -, hr, hev'⟩ := Cond.stringRef_spec hown hZ.1
  cases hZ.2.symm.trans hev'
  obtain ⟨k', hk', he⟩ := X.warmed.alike.2.2 _ _ hk
  have hr' : k'.resolved[index]? = some (some (.string q)) := by
    rcases X.warmed.entry hk hk' index with h | ⟨h, -⟩
    · rw [h]; exact hr
    · rw [hr] at h; cases h
  subst hb
  jvm_step X.here [hexec, hdg, ldc_w.wp_string (e := e) (s := T) (f := F0 m pc ls st) X.here.top hk' (by rw [he]; exact hcf) hcp hr']
  exact a1
/-- what the tables must say of an exception's class -/
def gAts (args : Array Value) (s : State) (own : String) (ic : Nat) (E : String) (names : List String) : Prop := Bundle.fit E = true ∧ (∀ n ∈ names, Bundle.fit n = true) ∧ ∀ a ∈ Bundle.ownAtoms own ic E names, a.before args s = true
/-- one cell of six slots more, of which nothing is known -/
def gsk (M : gMem) : gMem := (M.1, M.2.1 + 1, M.2.2 + 6)
theorem sameAll {s t : State} {k n : Nat} (h : s.sameButNew ({ t with vm := s.vm } : State) [] k n) {q : Nat} (hq : q < s.heap.size) : t.heap[q]? = s.heap[q]? := by
  obtain ⟨-, -, -, -, -, h6⟩ := h
  have h1 : s.heap[q]? = some s.heap[q] := Array.getElem?_eq_getElem hq
  obtain ⟨c', e1, e2, e3, e4⟩ := h6 q _ h1
  have e5 : c'.slots = s.heap[q].slots := Array.ext_getElem? (fun i => e4 i (by simp))
  have e6 : t.heap[q]? = some c' := e1
  rw [e6, h1, e2, e5]
/-- from the constructor's call to the end of the method -/
theorem W.ctorT (C : CallFix p m c cc nL s args Ts own) (hf : l.flags = pinnedFlags ++ [noTraceFlag]) (hex : c.exceptionTable.isEmpty = true) (hlocks : meth.locks = false) (hls : ls.size = nL) {E : String} {ic : Nat} {names : List String} (ha : gAts args s own ic E names)
    (hR0 : gR D cl B M s.heap) (hS : va_S (fun _ => False) s.heap H locs) {a q : Nat} {cC : ClassId} {kC : Class} (h1 : s.vm.findClass E = some cC) (h2 : s.vm.classes[cC]? = some kC) (hcell : H[a]? = some (freshCell cC kC)) (hnew : s.heap.size ≤ a)
    (hd6 : decode cc pc = .ok (.invokespecial ic, 3)) (hd9 : decode cc (pc + 3) = .ok (.athrow, 1)) (hfr : names.length + 3 < R.frames) (hlo : ((Value.ref a :: st).map fun v => v.category).sum + (13 * (names.length + 1) + 42) ≤ R.locals)
    (hc1 : cells = 1) (hp : Post (.inr E) (gsk M) cells slots) : W p l e R s m args below meth c H locs cells slots (MQX below (gQ D cl B (fun _ => False) Post) args s (fun _ => False)) (F0 m pc ls (.ref q :: .ref a :: .ref a :: st)) := by
  intro T hT X
  have hl0 : locs = [] := by
    cases locs with
    | nil => rfl
    | cons x r => exact (hS.2.2 x List.mem_cons_self).elim
  subst hl0
  obtain ⟨U, hsteps, hrun, hend, hW, hsame, ce, hce, hO⟩ := X.ctorThrowS C.1 (Launch.traces_off hf X.admits) (own := own) (cls := E) (names := names) (ic := ic) C.2.2.2.1 ha.1 ha.2.1 ha.2.2 (fun x hx => by cases hx) h1 h2 (by rw [hT]; exact hcell) hnew (msg := .ref q) rfl
    (g := F0 m pc ls (.ref q :: .ref a :: .ref a :: st)) rfl (by rw [hls]; exact C.2.2.1.symm) rfl rfl (rest := st) rfl (by rw [C.2.1]; exact hd6) (by rw [C.2.1]; exact hd9) (fun z hz => by
      have : c.exceptionTable.toList = [] := by simpa using hex
      rw [this] at hz
      cases hz) hfr (by simpa [JFrame.monitorRoom] using hlo) hlocks
  have hk : ∀ q : Nat, q < s.heap.size → U.heap[q]? = s.heap[q]? := fun q hq => sameAll hsame hq
  have hsz : s.heap.size ≤ U.heap.size := hsame.2.1
  have hz : U.heap.size = (gsk M).2.1 := by
    have h1 : U.heap.size ≤ s.heap.size + cells := hsame.2.2.1
    have h2 : a < U.heap.size := (Array.getElem?_eq_some_iff.mp hce).1
    have h3 : s.heap.size = M.2.1 := hR0.1.2
    show U.heap.size = M.2.1 + 1
    omega
  exact ⟨U, hsteps, .threw a, hrun, hend, [], cells, slots, ⟨.inr E, gsk M, ⟨a, ce, rfl, hce, by rw [hO.vm]; rfl, by rw [hW.alike.findClass]; exact hO.cls⟩, hp, hR0.kept rfl hz (Nat.le_trans hR0.1.1 hsz) hk, ⟨hsz, fun q hq _ => hk q hq⟩⟩, ⟨hW, hsame⟩, fun x hx => by cases hx⟩
theorem g_throw (C : CallFix p m c cc nL s args Ts own) (hf : l.flags = pinnedFlags ++ [noTraceFlag]) (hex : c.exceptionTable.isEmpty = true) (hlocks : meth.locks = false) (hR0 : gR D cl B M s.heap) {E tx : String} {ia is ic : Nat} {names : List String} (ha : gAts args s own ic E names) (hst : ∃ a, vk_R own is tx a s)
    (hcl : Cond.classLink own ia E ∈ Ts) (hinst : Cond.instantiable E 6 ∈ Ts) (hini : Cond.initialized E ∈ Ts)
    (hd0 : decode cc pc = .ok (.new ia, 3)) (hd3 : decode cc (pc + 3) = .ok (.dup, 1)) (hd4 : decode cc (pc + 4) = .ok (.ldc is, 2)) (hd6 : decode cc (pc + 6) = .ok (.invokespecial ic, 3)) (hd9 : decode cc (pc + 9) = .ok (.athrow, 1))
    (hcells : 1 ≤ R.cells) (hslots : 6 ≤ R.slots) (hfr : names.length + 3 < R.frames) (hlo : ((Value.null :: st).map fun v => v.category).sum + (13 * (names.length + 1) + 42) ≤ R.locals)
    (hp : Post (.inr E) (gsk M) 1 6) : GW p l e R s m args below meth c nL (fun _ => False) (MQX below (gQ D cl B (fun _ => False) Post) args s (fun _ => False)) (gR D cl B M) 0 0 pc lv st := fun H locs ls hR hS hl => by
  obtain ⟨q, hq⟩ := hst
  refine W.newc C.1 C.2.1 C.2.2.2.1 (C.2.2.2.2 _ hcl) (C.2.2.2.2 _ hinst) (C.2.2.2.2 _ hini) rfl hd0 (by simpa using hcells) (by simpa using hslots) (fun cC kC h1 h2 h3 h4 => ?_)
  refine lv_dup C.1 C.2.1 hd3 rfl ?_
  refine va_ldcS C.1 C.2.1 C.2.2.2.1 hq hd4 ?_
  refine W.ctorT C hf hex hlocks hl.1 ha hR0 ⟨?_, ?_, hS.2.2⟩ h1 h2 (by simp) hS.1 hd6 hd9 hfr (by simpa [Value.category] using hlo) rfl hp
  · rw [Array.size_push]; exact Nat.le_succ_of_le hS.1
  · intro z hz _
    rw [Array.getElem?_push, if_neg (Nat.ne_of_lt (Nat.lt_of_lt_of_le hz hS.1))]
    exact hS.2.1 z hz (fun h => h)
theorem g_throwW (C : CallFix p m c cc nL s args Ts own) (hf : l.flags = pinnedFlags ++ [noTraceFlag]) (hex : c.exceptionTable.isEmpty = true) (hlocks : meth.locks = false) (hR0 : gR D cl B M s.heap) {E tx : String} {ia is ic : Nat} {names : List String} (ha : gAts args s own ic E names) (hst : ∃ a, vk_R own is tx a s)
    (hcl : Cond.classLink own ia E ∈ Ts) (hinst : Cond.instantiable E 6 ∈ Ts) (hini : Cond.initialized E ∈ Ts)
    (hd0 : decode cc pc = .ok (.new ia, 3)) (hd3 : decode cc (pc + 3) = .ok (.dup, 1)) (hd4 : decode cc (pc + 4) = .ok (.ldc_w is, 3)) (hd6 : decode cc (pc + 7) = .ok (.invokespecial ic, 3)) (hd9 : decode cc (pc + 10) = .ok (.athrow, 1))
    (hcells : 1 ≤ R.cells) (hslots : 6 ≤ R.slots) (hfr : names.length + 3 < R.frames) (hlo : ((Value.null :: st).map fun v => v.category).sum + (13 * (names.length + 1) + 42) ≤ R.locals)
    (hp : Post (.inr E) (gsk M) 1 6) : GW p l e R s m args below meth c nL (fun _ => False) (MQX below (gQ D cl B (fun _ => False) Post) args s (fun _ => False)) (gR D cl B M) 0 0 pc lv st := fun H locs ls hR hS hl => by
  obtain ⟨q, hq⟩ := hst
  refine W.newc C.1 C.2.1 C.2.2.2.1 (C.2.2.2.2 _ hcl) (C.2.2.2.2 _ hinst) (C.2.2.2.2 _ hini) rfl hd0 (by simpa using hcells) (by simpa using hslots) (fun cC kC h1 h2 h3 h4 => ?_)
  refine lv_dup C.1 C.2.1 hd3 rfl ?_
  refine W.ldcwS C.1 C.2.1 C.2.2.2.1 hq hd4 ?_
  refine W.ctorT C hf hex hlocks hl.1 ha hR0 ⟨?_, ?_, hS.2.2⟩ h1 h2 (by simp) hS.1 hd6 hd9 hfr (by simpa [Value.category] using hlo) rfl hp
  · rw [Array.size_push]; exact Nat.le_succ_of_le hS.1
  · intro z hz _
    rw [Array.getElem?_push, if_neg (Nat.ne_of_lt (Nat.lt_of_lt_of_le hz hS.1))]
    exact hS.2.1 z hz (fun h => h)
end GT1
