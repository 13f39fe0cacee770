/-! gkit, part d: contracts that may end by a throw; calls -/
def FrameX (first t : State) (L : List Loc) (k n : Nat) : Prop := first.WarmedH t.vm ∧ first.sameButNew ({ t with vm := first.vm } : State) L k n
def MetX (l : Launch) (y : MethodName) (ws : List Cond) (rm : Room) (Pc : Array Value → State → Prop) (Qc : Array Value → State → Outcome → State → Nat → Nat → Prop) (free : Addr → Prop) : Prop :=
  MetFree l y (headSpec ws rm) Pc (fun _ _ _ _ _ => True) (fun a st o t => ∃ (L : List Loc) (k n : Nat), Qc a st o t k n ∧ FrameX st t L k n ∧ ∀ q ∈ L, free q.base)
def MQX (below : List Frame) (Qc : Array Value → State → Outcome → State → Nat → Nat → Prop) (a : Array Value) (s : State) (free : Addr → Prop) : State → Prop := fun t =>
  ∃ o, t.status = .running ∧ Ended t below o ∧ ∃ (L : List Loc) (k n : Nat), Qc a s o t k n ∧ FrameX s t L k n ∧ ∀ q ∈ L, free q.base
theorem W.mono {p : Program} {l : Launch} {e : Env} {R : Room} {s : State} {m : MethodId} {args : Array Value} {below : List Frame} {meth : Method} {c : Code} {H : Heap} {locs : List Loc} {cells slots : Nat} {Q Q' : State → Prop} {g : JFrame} (h : ∀ t, Q t → Q' t) (k : W p l e R s m args below meth c H locs cells slots Q g) : W p l e R s m args below meth c H locs cells slots Q' g := fun T hT X => by
  obtain ⟨t, a, b⟩ := k T hT X
  exact ⟨t, a, h t b⟩
theorem MetX.ofW {l : Launch} {y : MethodName} {ws ws' : List Cond} {rm : Room} {Pc : Array Value → State → Prop} {Qc : Array Value → State → Outcome → State → Nat → Nat → Prop} {free : Addr → Prop} {cc : ByteArray} {maxL : Nat} {ret : Option FieldType}
    (hy : plainName y.cls = true) (hw : ws = Cond.code y cc maxL ret :: ws')
    (body : ∀ p e s m args below meth c s₁, BodyLoose p l y (headSpec ws rm) cc maxL ret e s m args below meth c s₁ → c.maxLocals = maxL → Pc args s →
      W p l e rm s m args below meth c s.heap [] 0 0 (MQX below Qc args s free) (entryFrame m args maxL)) : MetX l y ws rm Pc Qc free := by
  refine MetFree.of_bodyS (code := cc) (maxLocals := maxL) (ret := ret) hy ?_ ?_
  · intro args s m h hn
    obtain ⟨meth, c, h1, h2, h3, h4, h5, h6, -, -⟩ := Cond.code_spec hn (atoms_spec (ws := ws) h _ (by rw [hw]; exact List.mem_cons_self))
    exact ⟨meth, c, h1, h2, h3, h4, h5, h6⟩
  · intro p e s m args below meth c s₁ B hml hP _
    have hh0 : s₁.heap = s.heap := by rw [B.state]; rfl
    obtain ⟨t, a1, o, b1, b2, b3⟩ := body p e s m args below meth c s₁ B hml hP s₁ hh0 (Stand.of_body B)
    exact ⟨t, o, a1, b1, b2, b3⟩
/-- the words that no warming unsays but that the kit's lists don't take: nest mates, casts, arrays over a class -/
def gzok (w : Cond) : Prop := match w with
  | .fieldLinkNest _ _ _ _ _ _ => True
  | .methodLinkNest _ _ _ _ => True
  | .declares _ => True
  | .castable _ _ => True
  | .arrayOver (.object _) => True
  | _ => False
/-- a word's own sense: a String constant is there; else the word holds -/
def gz1 (w : Cond) (U : State) : Prop := match w with
  | .stringRef own k tx => ∃ a : Nat, vk_R own k tx a U
  | w => gzok w ∧ va_Nw w U
def gZ (zs : List Cond) (U : State) : Prop := ∀ w ∈ zs, gz1 w U
theorem gz1.warm {w : Cond} {s U : State} (hW : s.WarmedH U.vm) (h : gz1 w s) : gz1 w U := by
  unfold gz1 at h ⊢
  split at h
  · obtain ⟨a, ha⟩ := h
    exact ⟨a, ha.warm hW⟩
  · obtain ⟨h1, h2⟩ := h
    refine ⟨h1, ?_⟩
    unfold gzok at h1
    split at h1
    · exact va_Nw.warmF hW h2
    · exact va_Nw.warmM hW h2
    · exact va_Nw.warmD hW h2
    · exact va_Nw.warmC hW h2
    · exact va_AO.moved hW.alike h2
    · exact h1.elim
theorem gz1.same {w : Cond} {s U : State} (hv : s.vm = U.vm) (h : gz1 w s) : gz1 w U := by
  unfold gz1 at h ⊢
  split at h
  · obtain ⟨a, ha⟩ := h
    exact ⟨a, ha.same hv.symm⟩
  · obtain ⟨h1, h2⟩ := h
    refine ⟨h1, ?_⟩
    unfold gzok at h1
    split at h1
    · exact va_Nw.same rfl hv h2
    · exact va_Nw.same rfl hv h2
    · exact va_Nw.same rfl hv h2
    · exact va_Nw.same rfl hv h2
    · exact va_AO.moved (by rw [hv]; exact Vm.Alike.refl U.vm) h2
    · exact h1.elim
theorem gZ.warm {zs : List Cond} {s U : State} (hW : s.WarmedH U.vm) (h : gZ zs s) : gZ zs U := fun w hw => (h w hw).warm hW
theorem gZ.same {zs : List Cond} {s U : State} (hv : s.vm = U.vm) (h : gZ zs s) : gZ zs U := fun w hw => (h w hw).same hv
/-- a static field of Throwable is laid, in a cell that was there at the start -/
def gLs (B : Nat) (n d : String) (U : State) : Prop := ∃ (c : ClassId) (k : Class) (i : Nat) (f : Field) (a : Nat) (cell : Cell), U.vm.findClass "java/lang/Throwable" = some c ∧ U.fieldFound? "java/lang/Throwable" n d = some (c, k, i, f) ∧ f.isStatic = true ∧ k.statics = some a ∧ U.heap[a]? = some cell ∧ cell.vm.isStatics = true ∧ cell.cls = c ∧ f.slot < cell.slots.size ∧ k.staticTypes[f.slot]? = some f.type ∧ a < B
theorem gLs.step {B : Nat} {n d : String} {s U : State} (hvm : s.vm.Alike U.vm) (hk : ∀ a : Nat, a < s.heap.size → ¬ gA B a → U.heap[a]? = s.heap[a]?) (h : gLs B n d s) : gLs B n d U := by
  obtain ⟨c, k, i, f, a, cell, h1, h2, h3, h4, h5, h6, h7, h8, h9, h10⟩ := h
  obtain ⟨k', hi', he⟩ := State.fieldFound?_setVm hvm h2
  refine ⟨c, k', i, f, a, cell, by rw [hvm.findClass]; exact h1, hi', h3, by rw [he]; exact h4, ?_, h6, h7, h8, by rw [he]; exact h9, h10⟩
  rw [hk a (Array.getElem?_eq_some_iff.mp h5).1 (Nat.not_le.mpr h10)]
  exact h5
/-- no object of the class a is one of the class b -/
def gNc1 (a b : String) (U : State) : Prop := ∃ (c d : ClassId), U.vm.findClass a = some c ∧ U.vm.findClass b = some d ∧ U.vm.assignable c d = false
theorem gNc1.step {a b : String} {s U : State} (hvm : s.vm.Alike U.vm) (h : gNc1 a b s) : gNc1 a b U := by
  obtain ⟨c, d, h1, h2, h3⟩ := h
  exact ⟨c, d, by rw [hvm.findClass]; exact h1, by rw [hvm.findClass]; exact h2, by rw [hvm.assignable]; exact h3⟩
def gNc (U : State) : Prop := gNc1 "java/lang/IllegalStateException" "java/lang/IndexOutOfBoundsException" U ∧ gNc1 "java/lang/IllegalArgumentException" "java/lang/IndexOutOfBoundsException" U ∧ gNc1 "java/lang/IllegalArgumentException" "java/lang/IllegalStateException" U
theorem gNc.step {s U : State} (hvm : s.vm.Alike U.vm) (h : gNc s) : gNc U := ⟨h.1.step hvm, h.2.1.step hvm, h.2.2.step hvm⟩
/-- static fields that nobody writes: what a throw reads, and ArrayList's empty array -/
def gSt (B : Nat) (dE : Nat × Nat) (U : State) : Prop := va_Zq "java/lang/Throwable" "UNASSIGNED_STACK" "[Ljava/lang/StackTraceElement;" (gA B) U U.heap ∧ va_Zq "java/lang/Throwable" "SUPPRESSED_SENTINEL" "Ljava/util/List;" (gA B) U U.heap ∧ va_Z "java/util/ArrayList" "DEFAULTCAPACITY_EMPTY_ELEMENTDATA" "[Ljava/lang/Object;" (.ref dE.1) (gA B) U U.heap ∧ va_T (.object "java/lang/Object") dE.1 0 (fun _ => .null) (gA B) U U.heap ∧ gLs B "UNASSIGNED_STACK" "[Ljava/lang/StackTraceElement;" U ∧ gLs B "SUPPRESSED_SENTINEL" "Ljava/util/List;" U ∧ va_Mi "[Ljava/lang/Object;" dE.2 U ∧ gNc U
theorem gSt.step {B : Nat} {dE : Nat × Nat} {s U : State} (hvm : s.vm.Alike U.vm) (hk : ∀ a : Nat, a < s.heap.size → ¬ gA B a → U.heap[a]? = s.heap[a]?) (h : gSt B dE s) : gSt B dE U :=
  ⟨va_Zq.moved hvm (h.1.kept hk), va_Zq.moved hvm (h.2.1.kept hk), va_Z.moved hvm (h.2.2.1.kept hk), va_T.moved hvm (h.2.2.2.1.kept hk), h.2.2.2.2.1.step hvm hk, h.2.2.2.2.2.1.step hvm hk, h.2.2.2.2.2.2.1.moved hvm, h.2.2.2.2.2.2.2.step hvm⟩
def gEnv (D : va_G) (cl : List vw_C) (tys : List (ClassId × FieldType)) (zs : List Cond) (B : Nat) (dE : Nat × Nat) (U : State) : Prop := va_K D cl tys U ∧ gZ zs U ∧ gSt B dE U
theorem gEnv.step {D : va_G} {cl : List vw_C} {tys : List (ClassId × FieldType)} {zs : List Cond} {B : Nat} {dE : Nat × Nat} {s U : State} (hW : s.WarmedH U.vm) (hk : ∀ a : Nat, a < s.heap.size → ¬ gA B a → U.heap[a]? = s.heap[a]?) (h : gEnv D cl tys zs B dE s) : gEnv D cl tys zs B dE U :=
  ⟨va_K.moved hW.alike h.1, h.2.1.warm hW, h.2.2.step hW.alike hk⟩
/-- how a method ends: with an answer (or none), or by a throw of a class -/
abbrev gOut : Type := Option Value ⊕ String
def gOk (x : gOut) (o : Outcome) (t : State) : Prop := match x with
  | .inl v => o = .returned v
  | .inr E => ∃ (a : Addr) (cell : Cell), o = .threw a ∧ t.heap[a]? = some cell ∧ cell.vm.isStatics = false ∧ t.vm.findClass E = some cell.cls
def gPc (D : va_G) (cl : List vw_C) (tys : List (ClassId × FieldType)) (zs : List Cond) (B : Nat) (dE : Nat × Nat) (M : gMem) (av : List Value) : Array Value → State → Prop := va_Pc av (fun U => gEnv D cl tys zs B dE U ∧ gR D cl B M U.heap)
def gQ (D : va_G) (cl : List vw_C) (B : Nat) (A : Nat → Prop) (Post : gOut → gMem → Nat → Nat → Prop) : Array Value → State → Outcome → State → Nat → Nat → Prop := fun _ st o t k n => ∃ (x : gOut) (M' : gMem), gOk x o t ∧ Post x M' k n ∧ gR D cl B M' t.heap ∧ va_F A st t
def gMet (l : Launch) (y : MethodName) (ws : List Cond) (rm : Room) (D : va_G) (cl : List vw_C) (tys : List (ClassId × FieldType)) (zs : List Cond) (B : Nat) (dE : Nat × Nat) (A : Nat → Prop) (M : gMem) (av : List Value) (Post : gOut → gMem → Nat → Nat → Prop) : Prop :=
  MetX l y ws rm (gPc D cl tys zs B dE M av) (gQ D cl B A Post) A
theorem gPc.blind {D : va_G} {cl : List vw_C} {tys : List (ClassId × FieldType)} {zs : List Cond} {B : Nat} {dE : Nat × Nat} {M : gMem} {av : List Value} : FrameBlind (gPc D cl tys zs B dE M av) := fun a U g mk q => by
  obtain ⟨q1, ⟨q2, q3, q5⟩, q4⟩ := q
  exact ⟨q1, ⟨va_K.moved (u := U) (U := U.calling g mk a) (Vm.Alike.refl U.vm) q2, gZ.same (s := U) (U := U.calling g mk a) rfl q3, gSt.step (s := U) (U := U.calling g mk a) (Vm.Alike.refl U.vm) (fun _ _ _ => rfl) q5⟩, q4⟩
section GD
variable {l : Launch} {D : va_G} {cl : List vw_C} {tys : List (ClassId × FieldType)} {zs : List Cond} {B : Nat} {dE : Nat × Nat} {A : Nat → Prop} {M : gMem}
/-- a contract out of a walk from the entry -/
theorem gMet.ofW {y : MethodName} {ws ws' : List Cond} {rm : Room} {av : List Value} {Post : gOut → gMem → Nat → Nat → Prop} {cc : ByteArray} {maxL : Nat} {ret : Option FieldType} {lv0 : List (Nat × Value)}
    (hy : plainName y.cls = true) (hw : ws = Cond.code y cc maxL ret :: ws') (hsz : (lg_sl av).length ≤ maxL) (hlv : lv_args 0 av = lv0)
    (body : ∀ (p : Program) (e : Env) (s : State) (m : MethodId) (args : Array Value) (below : List Frame) (meth : Method) (c : Code), CallFix p m c cc maxL s args ws' y.cls → gEnv D cl tys zs B dE s → gR D cl B M s.heap → meth.sig.returnType = ret → meth.locks = false → c.exceptionTable.isEmpty = true → meth.name = y.name → l.admits e →
      GW p l e rm s m args below meth c maxL A (MQX below (gQ D cl B A Post) args s A) (gR D cl B M) 0 0 0 lv0 []) : gMet l y ws rm D cl tys zs B dE A M av Post := by
  refine MetX.ofW hy hw ?_
  intro p e s m args below meth c s₁ Bd hml hv
  obtain ⟨rfl, hE, hR⟩ := hv
  have hts := atoms_spec (ws := ws) Bd.pre
  have hown : s.vm.findClass y.cls = some m.cls := findClass_of_methodNamed Bd.named
  have hl := lv_entry av (n := maxL) hsz
  have hne := Bd.noHandlers (hts _ (by rw [hw]; exact List.mem_cons_self))
  have k := body p e s m av.toArray below meth c ⟨Bd.exec, Bd.bytes, hml, hown, fun w h => hts w (by rw [hw]; exact List.mem_cons_of_mem _ h)⟩ hE hR Bd.returns Bd.notSynchronized hne (name_of_methodNamed Bd.named Bd.method).1 Bd.admits
  rw [lg_entry_eq]
  rw [hlv] at hl
  exact k s.heap [] _ hR va_S.rf hl
/-- a contract out of a walk from the entry -/
theorem gMet.ofW0 {A0 : Nat → Prop} {y : MethodName} {ws ws' : List Cond} {rm : Room} {av : List Value} {Post : gOut → gMem → Nat → Nat → Prop} {cc : ByteArray} {maxL : Nat} {ret : Option FieldType} {lv0 : List (Nat × Value)}
    (hy : plainName y.cls = true) (hw : ws = Cond.code y cc maxL ret :: ws') (hsz : (lg_sl av).length ≤ maxL) (hlv : lv_args 0 av = lv0)
    (body : ∀ (p : Program) (e : Env) (s : State) (m : MethodId) (args : Array Value) (below : List Frame) (meth : Method) (c : Code), CallFix p m c cc maxL s args ws' y.cls → gEnv D cl tys zs B dE s → gR D cl B M s.heap → meth.sig.returnType = ret → meth.locks = false → c.exceptionTable.isEmpty = true → meth.name = y.name → l.admits e →
      GW p l e rm s m args below meth c maxL A0 (MQX below (gQ D cl B A Post) args s A) (gR D cl B M) 0 0 0 lv0 []) : gMet l y ws rm D cl tys zs B dE A M av Post := by
  refine MetX.ofW hy hw ?_
  intro p e s m args below meth c s₁ Bd hml hv
  obtain ⟨rfl, hE, hR⟩ := hv
  have hts := atoms_spec (ws := ws) Bd.pre
  have hown : s.vm.findClass y.cls = some m.cls := findClass_of_methodNamed Bd.named
  have hl := lv_entry av (n := maxL) hsz
  have hne := Bd.noHandlers (hts _ (by rw [hw]; exact List.mem_cons_self))
  have k := body p e s m av.toArray below meth c ⟨Bd.exec, Bd.bytes, hml, hown, fun w h => hts w (by rw [hw]; exact List.mem_cons_of_mem _ h)⟩ hE hR Bd.returns Bd.notSynchronized hne (name_of_methodNamed Bd.named Bd.method).1 Bd.admits
  rw [lg_entry_eq]
  rw [hlv] at hl
  exact k s.heap [] _ hR va_S.rf hl
end GD
section GE
variable {p : Program} {l : Launch} {e : Env} {R : Room} {s : State} {m : MethodId} {args : Array Value} {below : List Frame} {meth : Method} {c : Code} {nL : Nat} {D : va_G} {cl : List vw_C} {B : Nat} {A : Nat → Prop} {M : gMem} {cells slots pc : Nat} {lv : List (Nat × Value)} {st : List Value} {cc : ByteArray} {Ts : List Cond} {own : String} {Post : gOut → gMem → Nat → Nat → Prop}
theorem MQX.of {Qc : Array Value → State → Outcome → State → Nat → Nat → Prop} {t : State} (h : MQ below (fun a st o t => Qc a st o t cells slots) args s cells slots A t) : MQX below Qc args s A t := by
  obtain ⟨o, h1, h2, h3, L, hF, hL⟩ := h
  exact ⟨o, h1, h2, L, cells, slots, h3, ⟨hF.2.1, hF.2.2⟩, hL⟩
theorem g_iret (C : CallFix p m c cc nL s args Ts own) (hr : meth.sig.returnType = some .int) (hlocks : meth.locks = false) {v : Int32} (hd : decode cc pc = .ok (.ireturn, 1)) (hp : Post (.inl (some (.int v))) M cells slots) : GW p l e R s m args below meth c nL A (MQX below (gQ D cl B A Post) args s A) (gR D cl B M) cells slots pc lv [.int v] := fun H locs ls hR hS hl =>
  W.mono (fun _ => MQX.of) (W.iret (free := A) C.1 C.2.1 hr (fun t ht hW => ⟨.inl (some (.int v)), M, rfl, hp, by rw [ht]; exact hR, hS.F ht⟩) hS.2.2 hd hlocks)
theorem g_zret (C : CallFix p m c cc nL s args Ts own) {ty : FieldType} (hr : meth.sig.returnType = some ty) (hlocks : meth.locks = false) {v : Int32} (hn : narrow ty (.int v) = .int v) (hd : decode cc pc = .ok (.ireturn, 1)) (hp : Post (.inl (some (.int v))) M cells slots) : GW p l e R s m args below meth c nL A (MQX below (gQ D cl B A Post) args s A) (gR D cl B M) cells slots pc lv [.int v] := fun H locs ls hR hS hl =>
  W.mono (fun _ => MQX.of) (W.zret (free := A) C.1 C.2.1 hr hn (fun t ht hW => ⟨.inl (some (.int v)), M, rfl, hp, by rw [ht]; exact hR, hS.F ht⟩) hS.2.2 hd hlocks)
theorem g_vret (C : CallFix p m c cc nL s args Ts own) (hr : meth.sig.returnType = none) (hlocks : meth.locks = false) (hd : decode cc pc = .ok (.return_, 1)) (hp : Post (.inl none) M cells slots) : GW p l e R s m args below meth c nL A (MQX below (gQ D cl B A Post) args s A) (gR D cl B M) cells slots pc lv [] := fun H locs ls hR hS hl =>
  W.mono (fun _ => MQX.of) (W.vret (free := A) C.1 C.2.1 hr (fun t ht hW => ⟨.inl none, M, rfl, hp, by rw [ht]; exact hR, hS.F ht⟩) hS.2.2 hd hlocks)
theorem g_aret (C : CallFix p m c cc nL s args Ts own) {rt : FieldType} (hr : meth.sig.returnType = some rt) (hrt : (∃ n, rt = .object n) ∨ ∃ t, rt = .array t) (hlocks : meth.locks = false) {v : Value} (hv : v = .null ∨ ∃ a, v = .ref a) (hd : decode cc pc = .ok (.areturn, 1)) (hp : Post (.inl (some v)) M cells slots) : GW p l e R s m args below meth c nL A (MQX below (gQ D cl B A Post) args s A) (gR D cl B M) cells slots pc lv [v] := fun H locs ls hR hS hl =>
  W.mono (fun _ => MQX.of) (W.aret (free := A) C.1 C.2.1 hr hrt hv (fun t ht hW => ⟨.inl (some v), M, rfl, hp, by rw [ht]; exact hR, hS.F ht⟩) hS.2.2 hd hlocks)
end GE
