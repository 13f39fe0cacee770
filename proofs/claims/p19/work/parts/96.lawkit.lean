/-! the law's wrappers: the search of a handler, whether the catch type is resolved already or not -/
theorem gFs_row {e : Env} {u : State} {f : JFrame} {a : Addr} {x : ExceptionTableEntry} {t : List ExceptionTableEntry} {cT : ClassId} {cell : Cell} {k1 k2 : Jvm.Class} (hx : covers x f.pc = true) (h0 : x.catchType ≠ 0) (hl : u.vm.ClassLinks e.platform f.method.cls x.catchType cT) (hcell : u.heap[a]? = some cell) (hobj : ∀ k, cell.vm ≠ .statics k) (hk1 : u.vm.classes[cell.cls]? = some k1) (hk2 : u.vm.classes[cT]? = some k2) (Q : Handler → Jvm.Pre) (E : CtlPost) (d : Bool) (acts : List Action) :
    wp (findHandler.go f a (x :: t)) Q E e d acts u ↔ if u.vm.assignable cell.cls cT = true then Q (.found x.handlerPc) d acts (u.setVm (u.vm.noted f.method.cls x.catchType (.cls cT))) else wp (findHandler.go f a t) Q E e d acts (u.setVm (u.vm.noted f.method.cls x.catchType (.cls cT))) := by
  simp only [covers] at hx
  obtain ⟨r1, r2⟩ := (resolveClass_links e.toSetting hl).op (op := VmOp.resolveClass f.method.cls x.catchType) rfl
  have ali : u.vm.Alike (u.vm.noted f.method.cls x.catchType (.cls cT)) := (Vm.Alike.refl u.vm).noted _ _ _
  obtain ⟨k1', q1, -⟩ := ali.2.2 _ _ hk1
  obtain ⟨k2', q2, -⟩ := ali.2.2 _ _ hk2
  cases ha : u.vm.assignable cell.cls cT with
  | true =>
    have ha' : (u.vm.noted f.method.cls x.catchType (.cls cT)).assignable cell.cls cT = true := by rw [ali.assignable]; exact ha
    simp [findHandler.go, hx, h0, r1, r2, hcell, hobj, q1, q2, ha', VmOp.dirties, VmOp.acts]
  | false =>
    have ha' : (u.vm.noted f.method.cls x.catchType (.cls cT)).assignable cell.cls cT = false := by rw [ali.assignable]; exact ha
    simp [findHandler.go, hx, h0, r1, r2, hcell, hobj, q1, q2, ha', VmOp.dirties, VmOp.acts]
/-- the rows es of a table, searched from u, lead to h, and the tables are vm' then -/
def gFs (e : Env) (f : JFrame) (a : Addr) (es : List ExceptionTableEntry) (u : State) (h : Nat) (vm' : Vm) : Prop := ∀ (Q : Handler → Jvm.Pre) (E : CtlPost) (d : Bool) (acts : List Action), wp (findHandler.go f a es) Q E e d acts u ↔ Q (.found h) d acts (u.setVm vm')
theorem asg_self {vm : Vm} {c : ClassId} : vm.assignable c c = true := by
  show vm.assignableAux (255 + 1) c c = true
  rw [Vm.assignableAux]
  simp
section LA
variable {e : Env} {s u : State} {f : JFrame} {a : Addr} {x : ExceptionTableEntry} {t : List ExceptionTableEntry} {cell : Cell} {args : Array Value} {own E E1 : String} {h : Nat}
theorem gFs.hit (hW : s.WarmedH u.vm) (hown : s.vm.findClass own = some f.method.cls) (hpl : e.platform.magicAccessors = ({} : Platform).magicAccessors) (hw : (Cond.classLink own x.catchType E).before args s = true) (hx : covers x f.pc = true) (h0 : x.catchType ≠ 0) (hcell : u.heap[a]? = some cell) (hst : cell.vm.isStatics = false) (hfc : s.vm.findClass E = some cell.cls) : ∃ vm', s.WarmedH vm' ∧ gFs e f a (x :: t) u x.handlerPc vm' := by
  obtain ⟨c', hc', hcl⟩ := Cond.classLink_spec hown hw e.platform hpl
  cases hfc.symm.trans hc'
  obtain ⟨dk, _, _, kt, hd, _, _, _, _, hkt, _, hopen⟩ := hcl.here
  obtain ⟨kt', hkt', -⟩ := hW.alike.2.2 _ _ hkt
  refine ⟨_, hW.noted hd hopen (State.rightAt_cls hcl), fun Q E d acts => ?_⟩
  rw [gFs_row hx h0 (hW.classLinks hcl) hcell (VmData.ne_statics_of hst) hkt' hkt' Q E d acts, if_pos asg_self]
theorem gFs.pass (hW : s.WarmedH u.vm) (hown : s.vm.findClass own = some f.method.cls) (hpl : e.platform.magicAccessors = ({} : Platform).magicAccessors) (hw : (Cond.classLink own x.catchType E1).before args s = true) (hnc : gNc1 E E1 s) (hx : covers x f.pc = true) (h0 : x.catchType ≠ 0) (hcell : u.heap[a]? = some cell) (hst : cell.vm.isStatics = false) (hfc : s.vm.findClass E = some cell.cls)
    (k : ∀ u' : State, u'.heap = u.heap → s.WarmedH u'.vm → ∃ vm', s.WarmedH vm' ∧ gFs e f a t u' h vm') : ∃ vm', s.WarmedH vm' ∧ gFs e f a (x :: t) u h vm' := by
  obtain ⟨c', hc', hcl⟩ := Cond.classLink_spec hown hw e.platform hpl
  obtain ⟨c1, d1, h1, h2, h3⟩ := hnc
  cases hfc.symm.trans h1
  cases h2.symm.trans hc'
  obtain ⟨dk, _, _, kt, hd, _, _, _, _, hkt, _, hopen⟩ := hcl.here
  obtain ⟨kt', hkt', -⟩ := hW.alike.2.2 _ _ hkt
  obtain ⟨ks, hks⟩ := Vm.classAt_of_findClass hfc
  obtain ⟨ks', hks', -⟩ := hW.alike.2.2 _ _ hks
  obtain ⟨vm', w, g⟩ := k (u.setVm (u.vm.noted f.method.cls x.catchType (.cls c'))) rfl (hW.noted hd hopen (State.rightAt_cls hcl))
  refine ⟨vm', w, fun Q E d acts => ?_⟩
  rw [gFs_row hx h0 (hW.classLinks hcl) hcell (VmData.ne_statics_of hst) hks' hkt' Q E d acts, if_neg (by rw [hW.alike.assignable, h3]; decide), g Q E d acts]
  exact Iff.rfl
end LA
theorem gFs.step {e : Env} {u : State} {f : JFrame} {a : Addr} {h : Nat} {vm' : Vm} {meth : Method} {c : Code} {r : List Frame} (hm : u.vm.method? f.method = some meth) (hc : meth.code = some c) (hF : gFs e f a c.exceptionTable.toList u h vm') : (stepThrowing e u a (.java f :: r)).1 = (u.setVm vm').setFrames (.java { f with pc := h, stack := [.ref a] } :: r) := by
  have hfind : ∀ (Q : Handler → Jvm.Pre) (E : CtlPost) (d : Bool) (acts : List Action), wp (findHandler f a) Q E e d acts u ↔ Q (.found h) d acts (u.setVm vm') := fun Q E d acts => by
    rw [W.findHandler_eq hm hc]
    exact hF Q E d acts
  simp only [stepThrowing, searchFrame, vmDo]
  generalize hr : Sem.go _ e false [] u = res
  obtain ⟨as, rfl, ha⟩ := Sem.eq_ok_of hr (a := Handler.found h) (s' := u.setVm vm') (acts' := []) (by simp [hfind _ _ _ _])
  rfl
section LB
variable {p : Program} {l : Launch} {e : Env} {R : Room} {s : State} {m : MethodId} {args : Array Value} {below : List Frame} {meth : Method} {c : Code} {nL : Nat} {D : va_G} {cl : List vw_C} {B : Nat} {A : Nat → Prop} {Q : State → Prop} {M : gMem} {cells slots pc : Nat} {lv : List (Nat × Value)} {cc : ByteArray} {Ts : List Cond} {own : String}
/-- a throw is caught in this frame -/
theorem g_catch {E : String} {hpc : Nat} (hfind : ∀ (u : State) (f : JFrame) (a : Addr) (cell : Cell), f.method = m → f.pc = pc → s.WarmedH u.vm → u.heap[a]? = some cell → cell.vm.isStatics = false → s.vm.findClass E = some cell.cls → e.platform.magicAccessors = ({} : Platform).magicAccessors → ∃ vm', s.WarmedH vm' ∧ gFs e f a c.exceptionTable.toList u hpc vm')
    (k : ∀ x : Nat, GW p l e R s m args below meth c nL A Q (gR D cl B M) cells slots hpc lv [.ref x]) : GT p l e R s m args below meth c nL D cl B A Q M cells slots pc lv E := by
  intro H locs ls stk x cell hR hS hl hx hst hfc T hT X
  obtain ⟨vm', hW', hF⟩ := hfind ((T.setTop (F0 m pc ls stk)).pushFrame (.throwing x)) (F0 m pc ls stk) x cell rfl rfl (by rw [Stand.throwing_vm]; exact X.warmed) (by rw [Stand.throwing_heap, hT]; exact hx) hst hfc (by rw [X.admits.platform])
  obtain ⟨t, a1, b1⟩ := k x H locs ls hR hS hl (T.setVm vm') hT (X.noted hW')
  refine ⟨t, ?_, b1⟩
  have hat : At T (F0 m pc ls stk).method c below := X.here
  obtain ⟨hgo, hw⟩ := hat.throwing x
  refine Steps.head hgo hw ?_
  rw [stepThread_throwing (frames_entered X.here.top _), gFs.step (f := F0 m pc ls stk) (by rw [Stand.throwing_vm]; exact X.method') X.code hF]
  obtain ⟨g₀, hg⟩ := Option.isSome_iff_exists.mp X.here.top
  obtain ⟨r, hr⟩ := State.topJava?_eq_some.mp hg
  have hr' : (T.setVm vm').frames = .java g₀ :: r := hr
  have e1 : ∀ (v : State) (F G : List Frame), ((v.setFrames F).setVm vm').setFrames G = (v.setVm vm').setFrames G := fun v F G => by
    rw [show (v.setFrames F).setVm vm' = (v.setVm vm').setFrames F from rfl, State.setFrames_setFrames]
  rw [State.setTop_of_frames _ hr'] at a1
  rw [State.pushFrame, State.setTop_of_frames _ hr, e1, e1, hr]
  exact a1
end LB

theorem tab_of {es : List ExceptionTableEntry} {hs : List (Nat × Nat × Nat × Nat)} (h : es.map (fun h => (h.startPc, h.endPc, h.handlerPc, h.catchType)) = hs) : es = hs.map (fun q => (⟨q.1, q.2.1, q.2.2.1, q.2.2.2⟩ : ExceptionTableEntry)) := by
  rw [← h, List.map_map]
  exact (List.map_id _).symm
section LC
variable {l : Launch} {D : va_G} {cs : Nat → ClassId} {B : Nat} {dE : Nat × Nat} {lim : Nat × Nat} {M : gMem} {K : gOut → gMem → Prop} {cc : ByteArray}
/-- a contract out of a walk from the entry, of a method with a table -/
theorem cMet.ofH {y : MethodName} {fr lo : Nat} {av : List Value} {ret : Option FieldType} {maxL : Nat} {lv0 : List (Nat × Value)} {hs : List (Nat × Nat × Nat × Nat)}
    (hy : plainName y.cls = true) (hsz : (lg_sl av).length ≤ maxL) (hlv : lv_args 0 av = lv0)
    (body : ∀ (p : Program) (e : Env) (s : State) (m : MethodId) (args : Array Value) (below : List Frame) (meth : Method) (c : Code), CallFix p m c cc maxL s args gT y.cls → gEnv D gcl (gtys cs) gz B dE s → gR D gcl B M s.heap → cLe lim M M → meth.sig.returnType = ret → meth.locks = false → c.exceptionTable.toList = hs.map (fun q => (⟨q.1, q.2.1, q.2.2.1, q.2.2.2⟩ : ExceptionTableEntry)) →
      GW p l e ({ frames := fr, cells := lim.1 - M.2.1, slots := lim.2 - M.2.2, locals := lo } : Room) s m args below meth c maxL (gA B) (cQ0 below D B (gA B) lim M K args s) (gR D gcl B M) (M.2.1 - M.2.1) (M.2.2 - M.2.2) 0 lv0 []) : cMet l y (Cond.codeWith y cc maxL ret hs) fr lo D cs B dE (gA B) lim av M K := by
  intro hlm
  unfold gMet MetX
  refine MetFree.of_bodyS (code := cc) (maxLocals := maxL) (ret := ret) hy ?_ ?_
  · intro args s m h hn
    obtain ⟨m', meth, c, h0, h1, h2, h3, h4, -, h5, h6, -⟩ := Cond.codeWith_spec (atoms_spec (ws := Cond.codeWith y cc maxL ret hs :: gT) h _ List.mem_cons_self)
    cases hn.symm.trans h0
    exact ⟨meth, c, h1, h2, h3, h4, h5, h6⟩
  · intro p e s m args below meth c s₁ Bd hml hP _
    have hh0 : s₁.heap = s.heap := by rw [Bd.state]; rfl
    have hts := atoms_spec (ws := Cond.codeWith y cc maxL ret hs :: gT) Bd.pre
    have X := Stand.of_body Bd
    obtain ⟨m', meth', c', h0, h1, h2, h3, h4, h7, h5, h6, -⟩ := Cond.codeWith_spec (hts _ List.mem_cons_self)
    cases Bd.named.symm.trans h0
    cases Bd.method.symm.trans h1
    cases X.code.symm.trans h2
    obtain ⟨rfl, hE, hR⟩ := hP
    have hown : s.vm.findClass y.cls = some m.cls := findClass_of_methodNamed Bd.named
    have hl := lv_entry av (n := maxL) hsz
    have k := body p e s m av.toArray below meth c ⟨Bd.exec, Bd.bytes, hml, hown, fun w h => hts w (List.mem_cons_of_mem _ h)⟩ hE hR ⟨Nat.le_refl _, hlm.1, Nat.le_refl _, hlm.2⟩ Bd.returns Bd.notSynchronized (tab_of h7)
    rw [Nat.sub_self, Nat.sub_self] at k
    rw [hlv] at hl
    have k2 := k s.heap [] _ hR va_S.rf hl
    rw [← lg_entry_eq] at k2
    obtain ⟨t, a1, o, b1, b2, b3⟩ := k2 s₁ hh0 X
    exact ⟨t, o, a1, b1, b2, b3⟩
end LC
