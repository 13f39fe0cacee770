/-! the class: words that the lists don't take; Object's constructor; what is thrown, by number -/
section CLc
variable {D : va_G} {cs : Nat → ClassId} {B : Nat} {dE : Nat × Nat} {s : State}
theorem gE_fN (hE : gEnv D gcl (gtys cs) gz B dE s) {a b c d h : String} {i : Nat} (hw : Cond.fieldLinkNest a i b c d h ∈ gz) : va_Nw (.fieldLinkNest a i b c d h) s := (show gzok _ ∧ va_Nw _ s from hE.2.1 _ hw).2
theorem gE_mN (hE : gEnv D gcl (gtys cs) gz B dE s) {a h : String} {i : Nat} {y : MethodName} (hw : Cond.methodLinkNest a i y h ∈ gz) : va_Nw (.methodLinkNest a i y h) s := (show gzok _ ∧ va_Nw _ s from hE.2.1 _ hw).2
theorem gE_ao (hE : gEnv D gcl (gtys cs) gz B dE s) {C : String} (hw : Cond.arrayOver (.object C) ∈ gz) : va_AO C s := (show gzok _ ∧ va_Nw _ s from hE.2.1 _ hw).2
theorem gE_st (hE : gEnv D gcl (gtys cs) gz B dE s) {own tx : String} {i : Nat} (hw : Cond.stringRef own i tx ∈ gz) : ∃ a, vk_R own i tx a s := (show ∃ a, vk_R own i tx a s from hE.2.1 _ hw)
end CLc
def exn (k : Nat) : String := if k = 1 then "java/lang/IndexOutOfBoundsException" else if k = 2 then "java/lang/IllegalStateException" else "java/lang/IllegalArgumentException"
section CLd
variable {p : Program} {l : Launch} {e : Env} {R : Room} {s : State} {m : MethodId} {args : Array Value} {below : List Frame} {meth : Method} {c : Code} {nL : Nat} {A : Nat → Prop} {Q : State → Prop} {P : Heap → Prop} {cells slots pc : Nat} {lv : List (Nat × Value)} {st : List Value} {cc : ByteArray} {Ts : List Cond} {own : String}
theorem g_objInit (C : CallFix p m c cc nL s args Ts own) {idx a : Nat} (hlink : Cond.methodLink own idx Lib.objectInit ∈ Ts) (hinst : Cond.instanceMethod Lib.objectInit ∈ Ts) (hcode : Cond.code Lib.objectInit ⟨#[0xb1]⟩ 1 none ∈ Ts) (hd : decode cc pc = .ok (.invokespecial idx, 3)) (hfr : 1 ≤ R.frames) (hlo : (st.map fun v => v.category).sum + 12 ≤ R.locals) (k : GW p l e R s m args below meth c nL A Q P cells slots (pc + 3) lv st) : GW p l e R s m args below meth c nL A Q P cells slots pc lv (.ref a :: st) := fun H locs ls hP hS hl =>
  W.objInit C.1 C.2.1 C.2.2.2.1 (C.2.2.2.2 _ hlink) (C.2.2.2.2 _ hinst) (C.2.2.2.2 _ hcode) rfl (by rw [C.2.2.1]; exact hl.1) rfl hd hfr (by simpa [JFrame.monitorRoom] using hlo) (k H locs ls hP hS hl)
end CLd
/-- what the tables say of the three exceptions -/
abbrev atU : Cond := Cond.isRef (.static "java/lang/Throwable" "UNASSIGNED_STACK" "[Ljava/lang/StackTraceElement;")
abbrev atS : Cond := Cond.isRef (.static "java/lang/Throwable" "SUPPRESSED_SENTINEL" "Ljava/util/List;")
abbrev alU : Cond := Cond.laysStatic "java/lang/Throwable" "UNASSIGNED_STACK" "[Ljava/lang/StackTraceElement;"
abbrev alS : Cond := Cond.laysStatic "java/lang/Throwable" "SUPPRESSED_SENTINEL" "Ljava/util/List;"
def gkin (a : Cond) : Bool := match a with
  | .castable _ _ => true
  | .declares _ => true
  | _ => false
def gAtok (a : Cond) : Bool := decide (a ∈ gT) || (gkin a && decide (a ∈ gz)) || decide (a = atU) || decide (a = atS) || decide (a = alU) || decide (a = alS)
theorem gLs.lays {B : Nat} {n d : String} {s : State} {args : Array Value} (h : gLs B n d s) : (Cond.laysStatic "java/lang/Throwable" n d).before args s = true := by
  obtain ⟨c, k, i, f, a, cell, h1, h2, h3, h4, h5, h6, h7, h8, h9, h10⟩ := h
  simp [Cond.before, Cond.holds, Cond.value, h1, h2, h3, h4, h5, h6, h7, h8, h9]
theorem gAts_of {p : Program} {m : MethodId} {c : Code} {cc : ByteArray} {nL : Nat} {s : State} {args : Array Value} {own : String} {D : va_G} {cs : Nat → ClassId} {B : Nat} {dE : Nat × Nat} (C : CallFix p m c cc nL s args gT own) (hE : gEnv D gcl (gtys cs) gz B dE s) {ic : Nat} {E : String} {names : List String} (h1 : Bundle.fit E = true) (h2 : ∀ n ∈ names, Bundle.fit n = true) (h3 : ∀ a ∈ Bundle.ownAtoms own ic E names, gAtok a = true) : gAts args s own ic E names := by
  refine ⟨h1, h2, fun a ha => ?_⟩
  have h4 := h3 a ha
  simp only [gAtok, Bool.or_eq_true, Bool.and_eq_true, decide_eq_true_eq] at h4
  rcases h4 with ((((h | ⟨h5, h⟩) | h) | h) | h) | h
  · exact C.2.2.2.2 _ h
  · unfold gkin at h5
    split at h5
    · exact va_Nw.use rfl (show gzok _ ∧ va_Nw _ s from hE.2.1 _ h).2
    · exact va_Nw.use rfl (show gzok _ ∧ va_Nw _ s from hE.2.1 _ h).2
    · cases h5
  · rw [h]; exact gz_isref hE.2.2.1
  · rw [h]; exact gz_isref hE.2.2.2.1
  · rw [h]; exact hE.2.2.2.2.2.2.1.lays
  · rw [h]; exact hE.2.2.2.2.2.2.2.1.lays
theorem ats_Ix : ∀ a ∈ Bundle.ownAtoms R_N 107 "java/lang/IndexOutOfBoundsException" ["java/lang/RuntimeException", "java/lang/Exception"], gAtok a = true := by decide +kernel
theorem ats_Sx : ∀ a ∈ Bundle.ownAtoms R_N 94 "java/lang/IllegalStateException" ["java/lang/RuntimeException", "java/lang/Exception"], gAtok a = true := by decide +kernel
theorem ats_Ax : ∀ a ∈ Bundle.ownAtoms R_N 193 "java/lang/IllegalArgumentException" ["java/lang/RuntimeException", "java/lang/Exception"], gAtok a = true := by decide +kernel
