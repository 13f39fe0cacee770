/-! the reference's calls -/
def mbind {α β : Type _} (w : α) (f : α → β) : β := f w
theorem mbind_eq {α β : Type _} (w : α) (f : α → β) : mbind w f = f w := rfl
theorem kkl_Mo_335 : Cond.constantLong R_Mo 335 (-1 : Int64) ∈ gT := gT_k7 189 rfl rfl
theorem gcode_of {Ts : List Cond} {args : Array Value} {s : State} {y : MethodName} {b : ByteArray} {ml : Nat} {r : Option FieldType} (hts : ∀ w ∈ Ts, w.before args s = true) (hG : GoodIn Ts [Cond.code y b ml r]) : ∀ (a' : Array Value) (U : State) (mk : MethodId), s.WarmedH U.vm → U.methodNamed? y = some mk → ∃ (methY : Method) (cY : Code), U.vm.method? mk = some methY ∧ methY.code = some cY ∧ cY.maxLocals = ml := fun a' U mk hW hn => by
  have h1 : (Cond.code y b ml r).before a' U = true := pay_in hts hG _ List.mem_cons_self a' U hW
  obtain ⟨methY, cY, hm, hc, -, hl, -, -, -, -⟩ := Cond.code_spec hn h1
  exact ⟨methY, cY, hm, hc, hl⟩
section MOc
variable {p : Program} {l : Launch} {e : Env} {R : Room} {s : State} {m : MethodId} {args : Array Value} {below : List Frame} {meth : Method} {c : Code} {nL : Nat} {D : va_G} {B : Nat} {dE : Nat × Nat} {A : Nat → Prop} {Q : State → Prop} {cells slots pc : Nat} {lv : List (Nat × Value)} {st : List Value} {cc : ByteArray} {cs : Nat → ClassId} {mo : Nat} {ad : Nat → Nat} {M0 : gMem} {σ : mSt}
theorem m_geti (C : CallFix p m c cc nL s args gT R_Mo) (hE : gEnv D gcl (gtys cs) gz B dE s) {index : Nat} (k : Nat) (hk : k < 67) (h0 : mo_kd k = 0 ∨ mo_kd k = 5) (hlink : Cond.fieldLink R_Mo index (F_Mo k).1 (F_Mo k).2.1 (F_Mo k).2.2.1 ∈ gT) (hd : decode cc pc = .ok (.getfield index, 3)) (kk : GW p l e R s m args below meth c nL A Q (mo_P D B cs mo ad M0 σ) cells slots (pc + 3) lv (.int (σ.1 k) :: st)) : GW p l e R s m args below meth c nL A Q (mo_P D B cs mo ad M0 σ) cells slots pc lv (.ref mo :: st) := m_get C hE k hk (if_pos h0) hlink hd kk
theorem m_geta (C : CallFix p m c cc nL s args gT R_Mo) (hE : gEnv D gcl (gtys cs) gz B dE s) {index : Nat} (k : Nat) (hk : k < 67) (h0 : ¬ (mo_kd k = 0 ∨ mo_kd k = 5)) (h4 : ¬ mo_kd k = 4) (hlink : Cond.fieldLink R_Mo index (F_Mo k).1 (F_Mo k).2.1 (F_Mo k).2.2.1 ∈ gT) (hd : decode cc pc = .ok (.getfield index, 3)) (kk : GW p l e R s m args below meth c nL A Q (mo_P D B cs mo ad M0 σ) cells slots (pc + 3) lv (.ref (ad k) :: st)) : GW p l e R s m args below meth c nL A Q (mo_P D B cs mo ad M0 σ) cells slots pc lv (.ref mo :: st) := m_get C hE k hk (by unfold mo_f; rw [if_neg h0, if_neg h4]) hlink hd kk
theorem m_getl (C : CallFix p m c cc nL s args gT R_Mo) (hE : gEnv D gcl (gtys cs) gz B dE s) {index : Nat} (hlink : Cond.fieldLink R_Mo index (F_Mo 52).1 (F_Mo 52).2.1 (F_Mo 52).2.2.1 ∈ gT) (hd : decode cc pc = .ok (.getfield index, 3)) (kk : GW p l e R s m args below meth c nL A Q (mo_P D B cs mo ad M0 σ) cells slots (pc + 3) lv (.long σ.2.1 :: st)) : GW p l e R s m args below meth c nL A Q (mo_P D B cs mo ad M0 σ) cells slots pc lv (.ref mo :: st) := m_get C hE 52 (by decide) rfl hlink hd kk
theorem g_ldc {own : String} {Ts : List Cond} {P : Heap → Prop} (C : CallFix p m c cc nL s args Ts own) {index : Nat} {v : Int32} (hc : Cond.constant own index v ∈ Ts) (hd : decode cc pc = .ok (.ldc index, 2)) (k : GW p l e R s m args below meth c nL A Q P cells slots (pc + 2) lv (.int v :: st)) : GW p l e R s m args below meth c nL A Q P cells slots pc lv st := GW.one (fun _ _ _ _ k => lv_ldc C.1 C.2.1 C.2.2.2.1 (C.2.2.2.2 _ hc) hd k) k
theorem g_ldc2 {own : String} {Ts : List Cond} {P : Heap → Prop} (C : CallFix p m c cc nL s args Ts own) {index : Nat} {v : Int64} (hc : Cond.constantLong own index v ∈ Ts) (hd : decode cc pc = .ok (.ldc2_w index, 3)) (k : GW p l e R s m args below meth c nL A Q P cells slots (pc + 3) lv (.long v :: st)) : GW p l e R s m args below meth c nL A Q P cells slots pc lv st := GW.one (fun _ _ _ _ k => lv_ldc2 C.1 C.2.1 C.2.2.2.1 (C.2.2.2.2 _ hc) hd k) k
theorem g_lsub {own : String} {Ts : List Cond} {P : Heap → Prop} (C : CallFix p m c cc nL s args Ts own) {x y : Int64} (hd : decode cc pc = .ok (.lsub, 1)) (k : GW p l e R s m args below meth c nL A Q P cells slots (pc + 1) lv (.long (x - y) :: st)) : GW p l e R s m args below meth c nL A Q P cells slots pc lv (.long y :: .long x :: st) := GW.one (fun _ _ _ _ k => lv_lsub C.1 C.2.1 hd k) k
/-- booleans' arrays -/
theorem m_zald (C : CallFix p m c cc nL s args gT R_Mo) (hE : gEnv D gcl (gtys cs) gz B dE s) (k : Nat) (hk : k < 67) (h1 : mo_kd k = 2) {i : Int32} (hi : vp_in i (mo_len k)) (hd : decode cc pc = .ok (.baload, 1)) (kk : GW p l e R s m args below meth c nL A Q (mo_P D B cs mo ad M0 σ) cells slots (pc + 1) lv (.int (σ.2.2.1 k i.toNatClampNeg) :: st)) : GW p l e R s m args below meth c nL A Q (mo_P D B cs mo ad M0 σ) cells slots pc lv (.int i :: .ref (ad k) :: st) :=
  GW.ex (fun M hM => g_zald C hE.1 (r := 601 + k) (t0 := 1) (cA := cs 1) (n := mo_len k) (f := σ.2.2.1 k) rfl hd (by rw [hM.1.2 k hk (Or.inr (Or.inl h1))]; simp [mo_e, h1]) hi (GW.inx M hM kk))
theorem m_zast (C : CallFix p m c cc nL s args gT R_Mo) (hE : gEnv D gcl (gtys cs) gz B dE s) (k : Nat) (hk : k < 67) (h1 : mo_kd k = 2) {i x : Int32} (hx : x = 0 ∨ x = 1) (hi : vp_in i (mo_len k)) (hd : decode cc pc = .ok (.bastore, 1)) (kk : GW p l e R s m args below meth c nL (gA B) Q (mo_P D B cs mo ad M0 (mo_ai σ k i.toNatClampNeg x)) cells slots (pc + 1) lv st) : GW p l e R s m args below meth c nL (gA B) Q (mo_P D B cs mo ad M0 σ) cells slots pc lv (.int x :: .int i :: .ref (ad k) :: st) :=
  GW.ex (fun M hM => g_zast C hE.1 (r := 601 + k) (t0 := 1) (cA := cs 1) (n := mo_len k) (f := σ.2.2.1 k) rfl hd (by rw [hM.1.2 k hk (Or.inr (Or.inl h1))]; simp [mo_e, h1]) hi (GW.inx (T := mo_T cs mo ad M0 (mo_ai σ k i.toNatClampNeg x)) _ (hM.asti hk (Or.inr h1) (by rw [show vp_nar .boolean x = x by rcases hx with rfl | rfl <;> rfl]; simp [mo_e, h1, mo_ai, va_up])) kk))
/-- a call of the reference on itself -/
theorem m_callV {y : MethodName} {ml : Nat} {ret : Option FieldType} {bytes : ByteArray} {rm : Room} {av rest : List Value} {n index : Nat} {K1 : Option Value → mSt → Prop} (C : CallFix p m c cc nL s args gT R_Mo) (hE : gEnv D gcl (gtys cs) gz B dE s) (hM1 : mMet l y (Cond.code y bytes ml ret) rm D cs B dE mo ad (.ref mo :: av) σ K1)
    (hlink : Cond.methodLink R_Mo index y ∈ gT) (hinst : Cond.instanceMethod y ∈ gT) (hsel : Cond.selects R_Mo y y ∈ gT) (hcode : Cond.code y bytes ml ret ∈ gT) (hini : Cond.initialized R_Mo ∈ gT)
    (hy : y.cls = R_Mo ∧ y.cls ≠ "java/lang/invoke/MethodHandle" ∧ y.cls ≠ "java/lang/invoke/VarHandle" ∧ (parseMethodDescriptor y.desc).map (fun d => d.parameters.length) = some n) (hlen : av.length = n) (hrm : rm.cells = 0 ∧ rm.slots = 0) (hfr : rm.frames + 1 ≤ R.frames) (hlo : 8 + (ml + 11) + rm.locals ≤ R.locals)
    (hd : decode cc pc = .ok (.invokevirtual index, 3)) (hroom : (rest.map fun v => v.category).sum ≤ 8) (st0 : List Value) (hst : st0 = av.reverse ++ .ref mo :: rest)
    (kr : ∀ (v : Option Value) (σ' : mSt), K1 v σ' → GW p l e R s m args below meth c nL (gA B) Q (mo_P D B cs mo ad M0 σ') 0 0 (pc + 3) lv (v.toList ++ rest)) : GW p l e R s m args below meth c nL (gA B) Q (mo_P D B cs mo ad M0 σ) 0 0 pc lv st0 := by
  subst hst
  refine GW.ex (fun M hM => ?_)
  refine g_call C hE (fun _ h => h) (hM1 M hM.1) (fun _ h => h) (gT_goodc hcode) (gcode_of C.2.2.2.2 (fun w hw => by rw [List.mem_singleton.mp hw]; exact gT_good _ hcode)) (by rw [hy.1]; exact hini) hfr hlo (by rw [hrm.1]; exact Nat.zero_le _) (by rw [hrm.2]; exact Nat.zero_le _) hd hroom ?_ ?_ ?_
  · intro H ls hR
    obtain ⟨cellB, hc1, hc2, hc3⟩ := g_recv hE.1 hR (ci := 12) (q := (R_Mo, F_Mo, 67)) rfl hM.1.1
    exact Front.V C.1 C.2.2.2.1 (C.2.2.2.2 _ hlink) (C.2.2.2.2 _ hinst) (C.2.2.2.2 _ hsel) (C.2.2.2.2 _ hcode) ⟨hy.2.1, hy.2.2.1⟩ hc1 hc2 hc3 rfl (fun sig h => by
      have h2 := hy.2.2.2
      rw [h] at h2
      rw [hlen]
      exact (Option.some.inj h2).symm) rfl (by rw [C.2.1]; exact hd)
  · intro v M' k n' hP1
    obtain ⟨rfl, rfl, r, σ', hx, hK, hT⟩ := hP1
    cases hx
    exact GW.inx (T := mo_T cs mo ad M0 σ') M' ⟨hT.1, hM.2.1.trans hT.2.1, hT.2.2.trans hM.2.2⟩ (kr v σ' hK)
  · intro E M' k n' hP1
    obtain ⟨-, -, r, σ', hx, -⟩ := hP1
    cases hx
theorem m_callS {y : MethodName} {ml : Nat} {ret : Option FieldType} {bytes : ByteArray} {rm : Room} {av rest : List Value} {n index : Nat} {K1 : Option Value → mSt → Prop} (C : CallFix p m c cc nL s args gT R_Mo) (hE : gEnv D gcl (gtys cs) gz B dE s) (hM1 : mMet l y (Cond.code y bytes ml ret) rm D cs B dE mo ad av σ K1)
    (hlink : Cond.methodLink R_Mo index y ∈ gT) (hstat : Cond.static y ∈ gT) (hcode : Cond.code y bytes ml ret ∈ gT) (hini : Cond.initialized R_Mo ∈ gT)
    (hy : y.cls = R_Mo ∧ y.cls ≠ "java/lang/invoke/MethodHandle" ∧ y.cls ≠ "java/lang/invoke/VarHandle" ∧ (parseMethodDescriptor y.desc).map (fun d => d.parameters.length) = some n) (hlen : av.length = n) (hrm : rm.cells = 0 ∧ rm.slots = 0) (hfr : rm.frames + 1 ≤ R.frames) (hlo : 8 + (ml + 11) + rm.locals ≤ R.locals)
    (hd : decode cc pc = .ok (.invokestatic index, 3)) (hroom : (rest.map fun v => v.category).sum ≤ 8) (st0 : List Value) (hst : st0 = av.reverse ++ rest)
    (kr : ∀ (v : Option Value) (σ' : mSt), K1 v σ' → GW p l e R s m args below meth c nL (gA B) Q (mo_P D B cs mo ad M0 σ') 0 0 (pc + 3) lv (v.toList ++ rest)) : GW p l e R s m args below meth c nL (gA B) Q (mo_P D B cs mo ad M0 σ) 0 0 pc lv st0 := by
  subst hst
  refine GW.ex (fun M hM => ?_)
  refine g_call C hE (fun _ h => h) (hM1 M hM.1) (fun _ h => h) (gT_goodc hcode) (gcode_of C.2.2.2.2 (fun w hw => by rw [List.mem_singleton.mp hw]; exact gT_good _ hcode)) (by rw [hy.1]; exact hini) hfr hlo (by rw [hrm.1]; exact Nat.zero_le _) (by rw [hrm.2]; exact Nat.zero_le _) hd hroom ?_ ?_ ?_
  · intro H ls hR
    exact Front.S C.1 C.2.2.2.1 (C.2.2.2.2 _ hlink) (C.2.2.2.2 _ hstat) (by rw [hy.1]; exact C.2.2.2.2 _ hini) (C.2.2.2.2 _ hcode) ⟨hy.2.1, hy.2.2.1⟩ rfl (fun sig h => by
      have h2 := hy.2.2.2
      rw [h] at h2
      rw [hlen]
      exact (Option.some.inj h2).symm) rfl (by rw [C.2.1]; exact hd)
  · intro v M' k n' hP1
    obtain ⟨rfl, rfl, r, σ', hx, hK, hT⟩ := hP1
    cases hx
    exact GW.inx (T := mo_T cs mo ad M0 σ') M' ⟨hT.1, hM.2.1.trans hT.2.1, hT.2.2.trans hM.2.2⟩ (kr v σ' hK)
  · intro E M' k n' hP1
    obtain ⟨-, -, r, σ', hx, -⟩ := hP1
    cases hx
end MOc
/-- what a walk of the reference's own comes to -/
abbrev mQ (below : List Frame) (D : va_G) (cs : Nat → ClassId) (B mo : Nat) (ad : Nat → Nat) (M0 : gMem) (K : Option Value → mSt → Prop) (args : Array Value) (s : State) : State → Prop := MQX below (gQ D gcl B (gA B) (fun x M' k n => k = 0 ∧ n = 0 ∧ ∃ (r : Option Value) (σ' : mSt), x = .inl r ∧ K r σ' ∧ mo_T cs mo ad M0 σ' M')) args s (gA B)
section MOd
variable {p : Program} {l : Launch} {e : Env} {R : Room} {s : State} {m : MethodId} {args : Array Value} {below : List Frame} {meth : Method} {c : Code} {nL : Nat} {D : va_G} {B : Nat} {dE : Nat × Nat} {cells slots pc : Nat} {lv : List (Nat × Value)} {cc : ByteArray} {cs : Nat → ClassId} {mo : Nat} {ad : Nat → Nat} {M0 : gMem} {σ : mSt} {K : Option Value → mSt → Prop} {Ts : List Cond} {own : String}
theorem m_iret (C : CallFix p m c cc nL s args Ts own) (hr : meth.sig.returnType = some .int) (hlocks : meth.locks = false) {v : Int32} (hd : decode cc pc = .ok (.ireturn, 1)) (hK : K (some (.int v)) σ) : GW p l e R s m args below meth c nL (gA B) (mQ below D cs B mo ad M0 K args s) (mo_P D B cs mo ad M0 σ) 0 0 pc lv [.int v] :=
  GW.ex (fun M hM => g_iret C hr hlocks hd ⟨rfl, rfl, _, σ, rfl, hK, hM⟩)
theorem m_zret (C : CallFix p m c cc nL s args Ts own) (hr : meth.sig.returnType = some .boolean) (hlocks : meth.locks = false) {v : Int32} (hv : v = 0 ∨ v = 1) (hd : decode cc pc = .ok (.ireturn, 1)) (hK : K (some (.int v)) σ) : GW p l e R s m args below meth c nL (gA B) (mQ below D cs B mo ad M0 K args s) (mo_P D B cs mo ad M0 σ) 0 0 pc lv [.int v] :=
  GW.ex (fun M hM => g_zret C hr hlocks (by rcases hv with rfl | rfl <;> rfl) hd ⟨rfl, rfl, _, σ, rfl, hK, hM⟩)
theorem m_vret (C : CallFix p m c cc nL s args Ts own) (hr : meth.sig.returnType = none) (hlocks : meth.locks = false) (hd : decode cc pc = .ok (.return_, 1)) (hK : K none σ) : GW p l e R s m args below meth c nL (gA B) (mQ below D cs B mo ad M0 K args s) (mo_P D B cs mo ad M0 σ) 0 0 pc lv [] :=
  GW.ex (fun M hM => g_vret C hr hlocks hd ⟨rfl, rfl, _, σ, rfl, hK, hM⟩)
theorem mMet.ofW {y : MethodName} {rm : Room} {av : List Value} {ret : Option FieldType} {maxL : Nat} {lv0 : List (Nat × Value)}
    (hy : plainName y.cls = true) (hc : y.cls = R_Mo) (hsz : (lg_sl av).length ≤ maxL) (hlv : lv_args 0 av = lv0)
    (body : ∀ (p : Program) (e : Env) (s : State) (m : MethodId) (args : Array Value) (below : List Frame) (meth : Method) (c : Code) (M0 : gMem), CallFix p m c cc maxL s args gT R_Mo → gEnv D gcl (gtys cs) gz B dE s → meth.sig.returnType = ret → meth.locks = false →
      GW p l e rm s m args below meth c maxL (gA B) (mQ below D cs B mo ad M0 K args s) (mo_P D B cs mo ad M0 σ) 0 0 0 lv0 []) : mMet l y (Cond.code y cc maxL ret) rm D cs B dE mo ad av σ K := by
  intro M hM
  refine gMet.ofW hy rfl hsz hlv ?_
  intro p e s m args below meth c C hE hR hr hlocks _ _ _
  rw [hc] at C
  exact GW.inx (T := mo_T cs mo ad M σ) M ⟨hM, gFr.rf, rfl⟩ (body p e s m args below meth c M C hE hr hlocks)
end MOd
