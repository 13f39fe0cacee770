/-! the law's wrappers -/
def gFl (e : Env) (s : State) (m : MethodId) (pc : Nat) (E : String) (es : List ExceptionTableEntry) (h : Nat) : Prop := ∀ (u : State) (f : JFrame) (a : Addr) (cell : Cell), f.method = m → f.pc = pc → s.WarmedH u.vm → u.heap[a]? = some cell → cell.vm.isStatics = false → s.vm.findClass E = some cell.cls → e.platform.magicAccessors = ({} : Platform).magicAccessors → ∃ vm', s.WarmedH vm' ∧ gFs e f a es u h vm'
section LD
variable {p : Program} {e : Env} {s : State} {m : MethodId} {args : Array Value} {c : Code} {nL : Nat} {cc : ByteArray} {Ts : List Cond} {own E E1 : String} {pc b h h' k : Nat} {t : List ExceptionTableEntry}
theorem gFl.hit (C : CallFix p m c cc nL s args Ts own) (hw : Cond.classLink own k E ∈ Ts) (hb : pc < b) (h0 : k ≠ 0) : gFl e s m pc E (⟨0, b, h, k⟩ :: t) h := fun u f a cell hm hp hW hc hs hfc hpl =>
  gFs.hit (x := ⟨0, b, h, k⟩) hW (by rw [hm]; exact C.2.2.2.1) hpl (C.2.2.2.2 _ hw) (by simp [covers, hp, hb]) h0 hc hs hfc
theorem gFl.pass (C : CallFix p m c cc nL s args Ts own) (hw : Cond.classLink own k E1 ∈ Ts) (hn : gNc1 E E1 s) (hb : pc < b) (h0 : k ≠ 0) (r : gFl e s m pc E t h) : gFl e s m pc E (⟨0, b, h', k⟩ :: t) h := fun u f a cell hm hp hW hc hs hfc hpl =>
  gFs.pass (x := ⟨0, b, h', k⟩) hW (by rw [hm]; exact C.2.2.2.1) hpl (C.2.2.2.2 _ hw) hn (by simp [covers, hp, hb]) h0 hc hs hfc (fun u' hu' hW' => r u' f a cell hm hp hW' (by rw [hu']; exact hc) hs hfc hpl)
theorem gE_nc {D : va_G} {cs : Nat → ClassId} {B : Nat} {dE : Nat × Nat} (hE : gEnv D gcl (gtys cs) gz B dE s) : gNc s := hE.2.2.2.2.2.2.2.2.2
end LD
/-- what the wrapper answers -/
def wk (k : Nat) : Int32 := if k = 0 then 0 else if k = 1 then 1 else if k = 2 then 2 else 3
def wr (k : Nat) : Int32 := if k = 0 then 0 else if k = 2 then 1 else 2
def ws (k : Nat) : Int32 := if k = 0 then 0 else 1
def oC (cs : Nat → ClassId) (f : Nat → Int64) : Nat × va_E := (2, .inl (cs 2, 1, .inr (.inl f)))
def wQ (cs : Nat → ClassId) (o : Nat) (g : Nat → Int32) (w : Nat × Int32 × gMem) (x : gOut) (M' : gMem) : Prop := x = .inl (some (.int (g w.1))) ∧ ((w.1 = 0 ∧ ∃ f : Nat → Int64, f 0 = w.2.1.toInt64 ∧ M' = gup w.2.2 o (oC cs f)) ∨ (w.1 ≠ 0 ∧ M' = w.2.2))
def vQ2 (g : Nat → Int32) (w : Nat × gMem) (x : gOut) (M' : gMem) : Prop := x = .inl (some (.int (g w.1))) ∧ M' = w.2
theorem cLe.up {lim : Nat × Nat} {M0 M : gMem} {a : Nat} {x : Nat × va_E} (h : cLe lim M0 M) : cLe lim M0 (gup M a x) := h
theorem vp_in01 : vp_in 0 1 := by unfold vp_in; decide
theorem gT_goodw {y : MethodName} {b : ByteArray} {n : Nat} {r : Option FieldType} {hs : List (Nat × Nat × Nat × Nat)} (h : Cond.codeWith y b n r hs ∈ gT) : GoodIn gT (Cond.codeWith y b n r hs :: gT) := fun w hw => by
  rcases List.mem_cons.mp hw with rfl | hw
  · exact gT_good _ h
  · exact gT_good _ hw
theorem gcode_ofw {Ts : List Cond} {args : Array Value} {s : State} {y : MethodName} {b : ByteArray} {ml : Nat} {r : Option FieldType} {hs : List (Nat × Nat × Nat × Nat)} (hts : ∀ w ∈ Ts, w.before args s = true) (hG : GoodIn Ts [Cond.codeWith y b ml r hs]) : ∀ (a' : Array Value) (U : State) (mk : MethodId), s.WarmedH U.vm → U.methodNamed? y = some mk → ∃ (methY : Method) (cY : Code), U.vm.method? mk = some methY ∧ methY.code = some cY ∧ cY.maxLocals = ml := fun a' U mk hW hn => by
  have h1 : (Cond.codeWith y b ml r hs).before a' U = true := pay_in hts hG _ List.mem_cons_self a' U hW
  obtain ⟨m', methY, cY, h0, hm, hc, -, hl, -⟩ := Cond.codeWith_spec h1
  cases hn.symm.trans h0
  exact ⟨methY, cY, hm, hc, hl⟩
section LE
variable {p : Program} {l : Launch} {e : Env} {R : Room} {s : State} {m : MethodId} {args : Array Value} {below : List Frame} {meth : Method} {c : Code} {nL : Nat} {D : va_G} {cs : Nat → ClassId} {B : Nat} {dE : Nat × Nat} {A : Nat → Prop} {Q : State → Prop} {M M0 : gMem} {lim : Nat × Nat} {pc : Nat} {lv : List (Nat × Value)} {cc : ByteArray} {own : String}
theorem c_callH {y : MethodName} {bytes : ByteArray} {ret : Option FieldType} {hs : List (Nat × Nat × Nat × Nat)} {fr lo ml : Nat} {av : List Value} {A1 : Nat → Prop} {K1 : gOut → gMem → Prop} {st0 rest : List Value} {ig : Instr}
    (C : CallFix p m c cc nL s args gT own) (hE : gEnv D gcl (gtys cs) gz B dE s) (hAB : ∀ q, A q → B ≤ q) (hRm : R.cells = lim.1 - M0.2.1 ∧ R.slots = lim.2 - M0.2.2) (hle : cLe lim M0 M) (hM : cMet l y (Cond.codeWith y bytes ml ret hs) fr lo D cs B dE A1 lim av M K1) (hA1 : ∀ q, A1 q → A q)
    (hcode : Cond.codeWith y bytes ml ret hs ∈ gT) (hini : Cond.initialized y.cls ∈ gT) (hfr : fr + 1 ≤ R.frames) (hlo : 8 + (ml + 11) + lo ≤ R.locals) (hd : decode cc pc = .ok (ig, 3)) (hroom : (rest.map fun v => v.category).sum ≤ 8)
    (hfront : ∀ (H : Jvm.Heap) (ls : Array Slot), gR D gcl B M H → Front p l e R s m args below meth c H y (F0 m pc ls st0) rest av.toArray)
    (kr : ∀ (v : Option Value) (M' : gMem), K1 (.inl v) M' → cLe lim M0 M' → GW p l e R s m args below meth c nL A Q (gR D gcl B M') (M'.2.1 - M0.2.1) (M'.2.2 - M0.2.2) (pc + 3) lv (v.toList ++ rest))
    (kt : ∀ (E : String) (M' : gMem), K1 (.inr E) M' → cLe lim M0 M' → GT p l e R s m args below meth c nL D gcl B A Q M' (M'.2.1 - M0.2.1) (M'.2.2 - M0.2.2) pc lv E) :
    GW p l e R s m args below meth c nL A Q (gR D gcl B M) (M.2.1 - M0.2.1) (M.2.2 - M0.2.2) pc lv st0 := by
  obtain ⟨l1, l2, l3, l4⟩ := id hle
  refine g_call C hE hAB (hM ⟨l2, l4⟩) hA1 (gT_goodw hcode) (gcode_ofw C.2.2.2.2 (fun w hw => by rw [List.mem_singleton.mp hw]; exact gT_good _ hcode)) hini hfr hlo (by rw [hRm.1]; show _ + (lim.1 - M.2.1) ≤ _; omega) (by rw [hRm.2]; show _ + (lim.2 - M.2.2) ≤ _; omega) hd hroom hfront ?_ ?_
  · intro v M' k n hP
    obtain ⟨rfl, rfl, ⟨m1, m2, m3, m4⟩, hk⟩ := hP
    rw [show M.2.1 - M0.2.1 + (M'.2.1 - M.2.1) = M'.2.1 - M0.2.1 by omega, show M.2.2 - M0.2.2 + (M'.2.2 - M.2.2) = M'.2.2 - M0.2.2 by omega]
    exact kr v M' hk ⟨by omega, m2, by omega, m4⟩
  · intro E M' k n hP
    obtain ⟨rfl, rfl, ⟨m1, m2, m3, m4⟩, hk⟩ := hP
    rw [show M.2.1 - M0.2.1 + (M'.2.1 - M.2.1) = M'.2.1 - M0.2.1 by omega, show M.2.2 - M0.2.2 + (M'.2.2 - M.2.2) = M'.2.2 - M0.2.2 by omega]
    exact kt E M' hk ⟨by omega, m2, by omega, m4⟩
theorem c_fSH {y : MethodName} {index n : Nat} {bytes : ByteArray} {ml : Nat} {ret : Option FieldType} {hs : List (Nat × Nat × Nat × Nat)} {av rest st0 : List Value} (C : CallFix p m c cc nL s args gT own) (hlink : Cond.methodLink own index y ∈ gT) (hstat : Cond.static y ∈ gT) (hini : Cond.initialized y.cls ∈ gT) (hcode : Cond.codeWith y bytes ml ret hs ∈ gT) (hy : y.cls ≠ "java/lang/invoke/MethodHandle" ∧ y.cls ≠ "java/lang/invoke/VarHandle" ∧ (parseMethodDescriptor y.desc).map (fun d => d.parameters.length) = some n) (hlen : av.length = n) (hst : st0 = av.reverse ++ rest) (hd : decode cc pc = .ok (.invokestatic index, 3)) : ∀ (H : Jvm.Heap) (ls : Array Slot), gR D gcl B M H → Front p l e R s m args below meth c H y (F0 m pc ls st0) rest av.toArray := fun H ls hR => by
  subst hst
  intro T locs cells slots hT X
  obtain ⟨mk, methM, cM, hnamed, hmethM, -, -, -, -, -, -, hsigM⟩ := Cond.codeWith_spec (C.2.2.2.2 _ hcode)
  have hstatic : methM.isStatic = true := Cond.static_spec hnamed hmethM (C.2.2.2.2 _ hstat)
  obtain ⟨kP, hkP, -⟩ := className_of_methodNamed hnamed
  have hinitP : kP.init = .initialized := Cond.initialized_spec (findClass_of_methodNamed hnamed) hkP (C.2.2.2.2 _ hini)
  obtain ⟨vm₁, X₁, hstep₁⟩ := X.invokestatic C.1 C.2.2.2.1 (C.2.2.2.2 _ hlink) hnamed hmethM hstatic hkP hinitP ⟨hy.1, hy.2.1⟩ (g := F0 m pc ls (av.reverse ++ rest)) rfl (argsL := av) (rest := rest) (hlen_of hy.2.2 hlen _ hsigM) rfl (by rw [C.2.1]; exact hd)
  exact ⟨mk, vm₁, X₁.warmed, X₁, X₁.named hnamed, fun target h => hstep₁ _ fun acts => by rw [doInvoke_state]; exact h⟩
end LE
theorem kw_L_function : Cond.codeWith y_L_function c_L_function 6 (some .int) [(0, 12, 15, 13), (0, 12, 19, 15)] ∈ gT := gT_k2 209 rfl rfl
theorem lw_function (l : Launch) (hf : l.flags = pinnedFlags ++ [noTraceFlag]) (D : va_G) (cs : Nat → ClassId) (B : Nat) (dE : Nat × Nat) (lim : Nat × Nat) (n : Nat) (M : gMem) (a0 : Nat) (x1 : Int32) (x2 : Int32) (x3 : Int32) (hS : S_N_function cs lim n M a0 x1 x2 x3) (ha : cOk 0 M a0) (hw : (F_N_function cs n M a0 x1 x2 x3).1 = 0 ∨ (F_N_function cs n M a0 x1 x2 x3).1 = 1 ∨ (F_N_function cs n M a0 x1 x2 x3).1 = 2) (o : Nat) (f0 : Nat → Int64) (ho : (F_N_function cs n M a0 x1 x2 x3).2.2.1 o = some (oC cs f0)) : cMet l y_L_function (Cond.codeWith y_L_function c_L_function 6 (some .int) [(0, 12, 15, 13), (0, 12, 19, 15)]) 8 179 D cs B dE (gA B) lim [.ref a0, .int x1, .int x2, .int x3, .ref o] M (wQ cs o wk (F_N_function cs n M a0 x1 x2 x3)) := by
  refine cMet.ofH (by decide) (Nat.le_of_ble_eq_true rfl) (lv0 := [(0, .ref a0), (1, .int x1), (2, .int x2), (3, .int x3), (4, .ref o)]) rfl ?_
  intro p e s m args below meth c C hE hR0 hle hr hlocks htab
  replace htab : c.exceptionTable.toList = [⟨0, 12, 15, 13⟩, ⟨0, 12, 19, 15⟩] := htab
  generalize hF : (F_N_function cs n M a0 x1 x2 x3) = w at *
  refine g_aload C d_L_function_0 rfl ?_
  refine g_iconst (v := 0) C d_L_function_2 (by decide) ?_
  refine g_aload_n C d_L_function_3 rfl ?_
  refine g_iload_n C d_L_function_4 rfl ?_
  refine g_iload_n C d_L_function_5 rfl ?_
  refine g_iload_n C d_L_function_6 rfl ?_
  refine c_call (av := [.ref a0, .int x1, .int x2, .int x3]) (rest := [.int 0, .ref o]) C hE (fun _ h => h) ⟨rfl, rfl⟩ hle (cc_N_function l hf D cs B dE lim n M a0 x1 x2 x3 hS) (fun _ h => h) kd_N_function ki_N (Nat.le_of_ble_eq_true rfl) (Nat.le_of_ble_eq_true rfl) d_L_function_7 (Nat.le_of_ble_eq_true rfl) (c_fV (n := 3) (ci := 0) C hE.1 rfl km_L_7 kv_N_function kl_N_function kd_N_function ⟨by decide, by decide, by decide⟩ rfl rfl d_L_function_7 ha) (fun v M1 hv hle => ?_) (fun E M1 hv hle => ?_)
  · rw [hF] at hv
    obtain ⟨hx, rfl⟩ := hv
    by_cases h0 : w.1 = 0
    · rw [if_pos h0] at hx
      cases hx
      refine g_i2l C d_L_function_10 rfl ?_
      refine g_last C hE.1 (t0 := 2) rfl d_L_function_11 ho vp_in01 ?_
      refine g_goto C 23 d_L_function_12 (by decide) ?_
      refine g_iconst (v := 0) C d_L_function_23 (by decide) ?_
      exact c_iret C hr hlocks (cLe.up hle) d_L_function_24 ⟨by rw [h0]; rfl, Or.inl ⟨h0, _, rfl, rfl⟩⟩
    · rw [if_neg h0] at hx
      cases hx
  · rw [hF] at hv
    obtain ⟨hx, rfl⟩ := hv
    rcases hw with h0 | h0 | h0
    · rw [if_pos h0] at hx
      cases hx
    · rw [if_neg (by omega), h0] at hx
      cases (show E = "java/lang/IndexOutOfBoundsException" from Sum.inr.inj hx)
      refine g_catch (hpc := 15) (by rw [htab]; exact gFl.hit C kc_L_13 (by decide) (by decide)) (fun z => ?_)
      refine g_astore (lv' := [(5, .ref z), (0, .ref a0), (1, .int x1), (2, .int x2), (3, .int x3), (4, .ref o)]) C d_L_function_15 (by decide) rfl ?_
      refine g_iconst (v := 1) C d_L_function_17 (by decide) ?_
      exact c_iret C hr hlocks hle d_L_function_18 ⟨by rw [h0]; rfl, Or.inr ⟨by omega, rfl⟩⟩
    · rw [if_neg (by omega), h0] at hx
      cases (show E = "java/lang/IllegalStateException" from Sum.inr.inj hx)
      refine g_catch (hpc := 19) (by rw [htab]; exact gFl.pass C kc_L_13 (gE_nc hE).1 (by decide) (by decide) (gFl.hit C kc_L_15 (by decide) (by decide))) (fun z => ?_)
      refine g_astore (lv' := [(5, .ref z), (0, .ref a0), (1, .int x1), (2, .int x2), (3, .int x3), (4, .ref o)]) C d_L_function_19 (by decide) rfl ?_
      refine g_iconst (v := 2) C d_L_function_21 (by decide) ?_
      exact c_iret C hr hlocks hle d_L_function_22 ⟨by rw [h0]; rfl, Or.inr ⟨by omega, rfl⟩⟩
theorem kw_L_effect : Cond.codeWith y_L_effect c_L_effect 5 (some .int) [(0, 7, 10, 13)] ∈ gT := gT_k3 119 rfl rfl
theorem lw_effect (l : Launch) (hf : l.flags = pinnedFlags ++ [noTraceFlag]) (D : va_G) (cs : Nat → ClassId) (B : Nat) (dE : Nat × Nat) (lim : Nat × Nat) (M : gMem) (a0 : Nat) (x1 : Int32) (x2 : Int32) (x3 : Int32) (hS : S_N_effect cs lim M a0 x1 x2 x3) (ha : cOk 0 M a0) (hw : (F_N_effect cs M a0 x1 x2 x3).1 = 0 ∨ (F_N_effect cs M a0 x1 x2 x3).1 = 1) : cMet l y_L_effect (Cond.codeWith y_L_effect c_L_effect 5 (some .int) [(0, 7, 10, 13)]) 8 144 D cs B dE (gA B) lim [.ref a0, .int x1, .int x2, .int x3] M (vQ2 ws (F_N_effect cs M a0 x1 x2 x3)) := by
  refine cMet.ofH (by decide) (Nat.le_of_ble_eq_true rfl) (lv0 := [(0, .ref a0), (1, .int x1), (2, .int x2), (3, .int x3)]) rfl ?_
  intro p e s m args below meth c C hE hR0 hle hr hlocks htab
  replace htab : c.exceptionTable.toList = [⟨0, 7, 10, 13⟩] := htab
  generalize hF : (F_N_effect cs M a0 x1 x2 x3) = w at *
  refine g_aload_n C d_L_effect_0 rfl ?_
  refine g_iload_n C d_L_effect_1 rfl ?_
  refine g_iload_n C d_L_effect_2 rfl ?_
  refine g_iload_n C d_L_effect_3 rfl ?_
  refine c_call (av := [.ref a0, .int x1, .int x2, .int x3]) (rest := []) C hE (fun _ h => h) ⟨rfl, rfl⟩ hle (cc_N_effect l hf D cs B dE lim M a0 x1 x2 x3 hS) (fun _ h => h) kd_N_effect ki_N (Nat.le_of_ble_eq_true rfl) (Nat.le_of_ble_eq_true rfl) d_L_effect_4 (Nat.le_of_ble_eq_true rfl) (c_fV (n := 3) (ci := 0) C hE.1 rfl km_L_17 kv_N_effect kl_N_effect kd_N_effect ⟨by decide, by decide, by decide⟩ rfl rfl d_L_effect_4 ha) (fun v M1 hv hle => ?_) (fun E M1 hv hle => ?_)
  · rw [hF] at hv
    obtain ⟨hx, rfl⟩ := hv
    by_cases h0 : w.1 = 0
    · rw [if_pos h0] at hx
      cases hx
      refine g_goto C 14 d_L_effect_7 (by decide) ?_
      refine g_iconst (v := 0) C d_L_effect_14 (by decide) ?_
      exact c_iret C hr hlocks hle d_L_effect_15 ⟨by rw [h0]; rfl, rfl⟩
    · rw [if_neg h0] at hx
      cases hx
  · rw [hF] at hv
    obtain ⟨hx, rfl⟩ := hv
    rcases hw with h0 | h0
    · rw [if_pos h0] at hx
      cases hx
    · rw [if_neg (by omega), h0] at hx
      cases (show E = "java/lang/IndexOutOfBoundsException" from Sum.inr.inj hx)
      refine g_catch (hpc := 10) (by rw [htab]; exact gFl.hit C kc_L_13 (by decide) (by decide)) (fun z => ?_)
      refine g_astore (lv' := [(4, .ref z), (0, .ref a0), (1, .int x1), (2, .int x2), (3, .int x3)]) C d_L_effect_10 (by decide) rfl ?_
      refine g_iconst (v := 1) C d_L_effect_12 (by decide) ?_
      exact c_iret C hr hlocks hle d_L_effect_13 ⟨by rw [h0]; rfl, rfl⟩
theorem kw_L_atom : Cond.codeWith y_L_atom c_L_atom 5 (some .int) [(0, 10, 13, 13), (0, 10, 17, 15)] ∈ gT := gT_k3 130 rfl rfl
theorem lw_atom (l : Launch) (hf : l.flags = pinnedFlags ++ [noTraceFlag]) (D : va_G) (cs : Nat → ClassId) (B : Nat) (dE : Nat × Nat) (lim : Nat × Nat) (n : Nat) (M : gMem) (a0 : Nat) (x1 : Int32) (x2 : Int32) (hS : S_N_atom cs lim n M a0 x1 x2) (ha : cOk 0 M a0) (hw : (F_N_atom cs n M a0 x1 x2).1 = 0 ∨ (F_N_atom cs n M a0 x1 x2).1 = 1 ∨ (F_N_atom cs n M a0 x1 x2).1 = 2) (o : Nat) (f0 : Nat → Int64) (ho : (F_N_atom cs n M a0 x1 x2).2.2.1 o = some (oC cs f0)) : cMet l y_L_atom (Cond.codeWith y_L_atom c_L_atom 5 (some .int) [(0, 10, 13, 13), (0, 10, 17, 15)]) 8 143 D cs B dE (gA B) lim [.ref a0, .int x1, .int x2, .ref o] M (wQ cs o wk (F_N_atom cs n M a0 x1 x2)) := by
  refine cMet.ofH (by decide) (Nat.le_of_ble_eq_true rfl) (lv0 := [(0, .ref a0), (1, .int x1), (2, .int x2), (3, .ref o)]) rfl ?_
  intro p e s m args below meth c C hE hR0 hle hr hlocks htab
  replace htab : c.exceptionTable.toList = [⟨0, 10, 13, 13⟩, ⟨0, 10, 17, 15⟩] := htab
  generalize hF : (F_N_atom cs n M a0 x1 x2) = w at *
  refine g_aload_n C d_L_atom_0 rfl ?_
  refine g_iconst (v := 0) C d_L_atom_1 (by decide) ?_
  refine g_aload_n C d_L_atom_2 rfl ?_
  refine g_iload_n C d_L_atom_3 rfl ?_
  refine g_iload_n C d_L_atom_4 rfl ?_
  refine c_call (av := [.ref a0, .int x1, .int x2]) (rest := [.int 0, .ref o]) C hE (fun _ h => h) ⟨rfl, rfl⟩ hle (cc_N_atom l hf D cs B dE lim n M a0 x1 x2 hS) (fun _ h => h) kd_N_atom ki_N (Nat.le_of_ble_eq_true rfl) (Nat.le_of_ble_eq_true rfl) d_L_atom_5 (Nat.le_of_ble_eq_true rfl) (c_fV (n := 2) (ci := 0) C hE.1 rfl km_L_21 kv_N_atom kl_N_atom kd_N_atom ⟨by decide, by decide, by decide⟩ rfl rfl d_L_atom_5 ha) (fun v M1 hv hle => ?_) (fun E M1 hv hle => ?_)
  · rw [hF] at hv
    obtain ⟨hx, rfl⟩ := hv
    by_cases h0 : w.1 = 0
    · rw [if_pos h0] at hx
      cases hx
      refine g_i2l C d_L_atom_8 rfl ?_
      refine g_last C hE.1 (t0 := 2) rfl d_L_atom_9 ho vp_in01 ?_
      refine g_goto C 21 d_L_atom_10 (by decide) ?_
      refine g_iconst (v := 0) C d_L_atom_21 (by decide) ?_
      exact c_iret C hr hlocks (cLe.up hle) d_L_atom_22 ⟨by rw [h0]; rfl, Or.inl ⟨h0, _, rfl, rfl⟩⟩
    · rw [if_neg h0] at hx
      cases hx
  · rw [hF] at hv
    obtain ⟨hx, rfl⟩ := hv
    rcases hw with h0 | h0 | h0
    · rw [if_pos h0] at hx
      cases hx
    · rw [if_neg (by omega), h0] at hx
      cases (show E = "java/lang/IndexOutOfBoundsException" from Sum.inr.inj hx)
      refine g_catch (hpc := 13) (by rw [htab]; exact gFl.hit C kc_L_13 (by decide) (by decide)) (fun z => ?_)
      refine g_astore (lv' := [(4, .ref z), (0, .ref a0), (1, .int x1), (2, .int x2), (3, .ref o)]) C d_L_atom_13 (by decide) rfl ?_
      refine g_iconst (v := 1) C d_L_atom_15 (by decide) ?_
      exact c_iret C hr hlocks hle d_L_atom_16 ⟨by rw [h0]; rfl, Or.inr ⟨by omega, rfl⟩⟩
    · rw [if_neg (by omega), h0] at hx
      cases (show E = "java/lang/IllegalStateException" from Sum.inr.inj hx)
      refine g_catch (hpc := 17) (by rw [htab]; exact gFl.pass C kc_L_13 (gE_nc hE).1 (by decide) (by decide) (gFl.hit C kc_L_15 (by decide) (by decide))) (fun z => ?_)
      refine g_astore (lv' := [(4, .ref z), (0, .ref a0), (1, .int x1), (2, .int x2), (3, .ref o)]) C d_L_atom_17 (by decide) rfl ?_
      refine g_iconst (v := 2) C d_L_atom_19 (by decide) ?_
      exact c_iret C hr hlocks hle d_L_atom_20 ⟨by rw [h0]; rfl, Or.inr ⟨by omega, rfl⟩⟩
theorem kw_L_let : Cond.codeWith y_L_let c_L_let 6 (some .int) [(0, 12, 15, 13), (0, 12, 19, 15)] ∈ gT := gT_k3 178 rfl rfl
theorem lw_let (l : Launch) (hf : l.flags = pinnedFlags ++ [noTraceFlag]) (D : va_G) (cs : Nat → ClassId) (B : Nat) (dE : Nat × Nat) (lim : Nat × Nat) (n : Nat) (M : gMem) (a0 : Nat) (x1 : Int32) (x2 : Int32) (x3 : Int32) (hS : S_N_let cs lim n M a0 x1 x2 x3) (ha : cOk 0 M a0) (hw : (F_N_let cs n M a0 x1 x2 x3).1 = 0 ∨ (F_N_let cs n M a0 x1 x2 x3).1 = 1 ∨ (F_N_let cs n M a0 x1 x2 x3).1 = 2) (o : Nat) (f0 : Nat → Int64) (ho : (F_N_let cs n M a0 x1 x2 x3).2.2.1 o = some (oC cs f0)) : cMet l y_L_let (Cond.codeWith y_L_let c_L_let 6 (some .int) [(0, 12, 15, 13), (0, 12, 19, 15)]) 8 145 D cs B dE (gA B) lim [.ref a0, .int x1, .int x2, .int x3, .ref o] M (wQ cs o wk (F_N_let cs n M a0 x1 x2 x3)) := by
  refine cMet.ofH (by decide) (Nat.le_of_ble_eq_true rfl) (lv0 := [(0, .ref a0), (1, .int x1), (2, .int x2), (3, .int x3), (4, .ref o)]) rfl ?_
  intro p e s m args below meth c C hE hR0 hle hr hlocks htab
  replace htab : c.exceptionTable.toList = [⟨0, 12, 15, 13⟩, ⟨0, 12, 19, 15⟩] := htab
  generalize hF : (F_N_let cs n M a0 x1 x2 x3) = w at *
  refine g_aload C d_L_let_0 rfl ?_
  refine g_iconst (v := 0) C d_L_let_2 (by decide) ?_
  refine g_aload_n C d_L_let_3 rfl ?_
  refine g_iload_n C d_L_let_4 rfl ?_
  refine g_iload_n C d_L_let_5 rfl ?_
  refine g_iload_n C d_L_let_6 rfl ?_
  refine c_call (av := [.ref a0, .int x1, .int x2, .int x3]) (rest := [.int 0, .ref o]) C hE (fun _ h => h) ⟨rfl, rfl⟩ hle (cc_N_let l hf D cs B dE lim n M a0 x1 x2 x3 hS) (fun _ h => h) kd_N_let ki_N (Nat.le_of_ble_eq_true rfl) (Nat.le_of_ble_eq_true rfl) d_L_let_7 (Nat.le_of_ble_eq_true rfl) (c_fV (n := 3) (ci := 0) C hE.1 rfl km_L_25 kv_N_let kl_N_let kd_N_let ⟨by decide, by decide, by decide⟩ rfl rfl d_L_let_7 ha) (fun v M1 hv hle => ?_) (fun E M1 hv hle => ?_)
  · rw [hF] at hv
    obtain ⟨hx, rfl⟩ := hv
    by_cases h0 : w.1 = 0
    · rw [if_pos h0] at hx
      cases hx
      refine g_i2l C d_L_let_10 rfl ?_
      refine g_last C hE.1 (t0 := 2) rfl d_L_let_11 ho vp_in01 ?_
      refine g_goto C 23 d_L_let_12 (by decide) ?_
      refine g_iconst (v := 0) C d_L_let_23 (by decide) ?_
      exact c_iret C hr hlocks (cLe.up hle) d_L_let_24 ⟨by rw [h0]; rfl, Or.inl ⟨h0, _, rfl, rfl⟩⟩
    · rw [if_neg h0] at hx
      cases hx
  · rw [hF] at hv
    obtain ⟨hx, rfl⟩ := hv
    rcases hw with h0 | h0 | h0
    · rw [if_pos h0] at hx
      cases hx
    · rw [if_neg (by omega), h0] at hx
      cases (show E = "java/lang/IndexOutOfBoundsException" from Sum.inr.inj hx)
      refine g_catch (hpc := 15) (by rw [htab]; exact gFl.hit C kc_L_13 (by decide) (by decide)) (fun z => ?_)
      refine g_astore (lv' := [(5, .ref z), (0, .ref a0), (1, .int x1), (2, .int x2), (3, .int x3), (4, .ref o)]) C d_L_let_15 (by decide) rfl ?_
      refine g_iconst (v := 1) C d_L_let_17 (by decide) ?_
      exact c_iret C hr hlocks hle d_L_let_18 ⟨by rw [h0]; rfl, Or.inr ⟨by omega, rfl⟩⟩
    · rw [if_neg (by omega), h0] at hx
      cases (show E = "java/lang/IllegalStateException" from Sum.inr.inj hx)
      refine g_catch (hpc := 19) (by rw [htab]; exact gFl.pass C kc_L_13 (gE_nc hE).1 (by decide) (by decide) (gFl.hit C kc_L_15 (by decide) (by decide))) (fun z => ?_)
      refine g_astore (lv' := [(5, .ref z), (0, .ref a0), (1, .int x1), (2, .int x2), (3, .int x3), (4, .ref o)]) C d_L_let_19 (by decide) rfl ?_
      refine g_iconst (v := 2) C d_L_let_21 (by decide) ?_
      exact c_iret C hr hlocks hle d_L_let_22 ⟨by rw [h0]; rfl, Or.inr ⟨by omega, rfl⟩⟩
theorem kw_L_rec : Cond.codeWith y_L_rec c_L_rec 8 (some .int) [(0, 16, 19, 13), (0, 16, 23, 15)] ∈ gT := gT_k3 191 rfl rfl
theorem lw_rec (l : Launch) (hf : l.flags = pinnedFlags ++ [noTraceFlag]) (D : va_G) (cs : Nat → ClassId) (B : Nat) (dE : Nat × Nat) (lim : Nat × Nat) (n : Nat) (M : gMem) (a0 : Nat) (x1 : Int32) (x2 : Int32) (x3 : Int32) (x4 : Int32) (x5 : Int32) (hS : S_N_rec cs lim n M a0 x1 x2 x3 x4 x5) (ha : cOk 0 M a0) (hw : (F_N_rec cs n M a0 x1 x2 x3 x4 x5).1 = 0 ∨ (F_N_rec cs n M a0 x1 x2 x3 x4 x5).1 = 1 ∨ (F_N_rec cs n M a0 x1 x2 x3 x4 x5).1 = 2) (o : Nat) (f0 : Nat → Int64) (ho : (F_N_rec cs n M a0 x1 x2 x3 x4 x5).2.2.1 o = some (oC cs f0)) : cMet l y_L_rec (Cond.codeWith y_L_rec c_L_rec 8 (some .int) [(0, 16, 19, 13), (0, 16, 23, 15)]) 8 147 D cs B dE (gA B) lim [.ref a0, .int x1, .int x2, .int x3, .int x4, .int x5, .ref o] M (wQ cs o wk (F_N_rec cs n M a0 x1 x2 x3 x4 x5)) := by
  refine cMet.ofH (by decide) (Nat.le_of_ble_eq_true rfl) (lv0 := [(0, .ref a0), (1, .int x1), (2, .int x2), (3, .int x3), (4, .int x4), (5, .int x5), (6, .ref o)]) rfl ?_
  intro p e s m args below meth c C hE hR0 hle hr hlocks htab
  replace htab : c.exceptionTable.toList = [⟨0, 16, 19, 13⟩, ⟨0, 16, 23, 15⟩] := htab
  generalize hF : (F_N_rec cs n M a0 x1 x2 x3 x4 x5) = w at *
  refine g_aload C d_L_rec_0 rfl ?_
  refine g_iconst (v := 0) C d_L_rec_2 (by decide) ?_
  refine g_aload_n C d_L_rec_3 rfl ?_
  refine g_iload_n C d_L_rec_4 rfl ?_
  refine g_iload_n C d_L_rec_5 rfl ?_
  refine g_iload_n C d_L_rec_6 rfl ?_
  refine g_iload C d_L_rec_7 rfl ?_
  refine g_iload C d_L_rec_9 rfl ?_
  refine c_call (av := [.ref a0, .int x1, .int x2, .int x3, .int x4, .int x5]) (rest := [.int 0, .ref o]) C hE (fun _ h => h) ⟨rfl, rfl⟩ hle (cc_N_rec l hf D cs B dE lim n M a0 x1 x2 x3 x4 x5 hS) (fun _ h => h) kd_N_rec ki_N (Nat.le_of_ble_eq_true rfl) (Nat.le_of_ble_eq_true rfl) d_L_rec_11 (Nat.le_of_ble_eq_true rfl) (c_fV (n := 5) (ci := 0) C hE.1 rfl km_L_28 kv_N_rec kl_N_rec kd_N_rec ⟨by decide, by decide, by decide⟩ rfl rfl d_L_rec_11 ha) (fun v M1 hv hle => ?_) (fun E M1 hv hle => ?_)
  · rw [hF] at hv
    obtain ⟨hx, rfl⟩ := hv
    by_cases h0 : w.1 = 0
    · rw [if_pos h0] at hx
      cases hx
      refine g_i2l C d_L_rec_14 rfl ?_
      refine g_last C hE.1 (t0 := 2) rfl d_L_rec_15 ho vp_in01 ?_
      refine g_goto C 27 d_L_rec_16 (by decide) ?_
      refine g_iconst (v := 0) C d_L_rec_27 (by decide) ?_
      exact c_iret C hr hlocks (cLe.up hle) d_L_rec_28 ⟨by rw [h0]; rfl, Or.inl ⟨h0, _, rfl, rfl⟩⟩
    · rw [if_neg h0] at hx
      cases hx
  · rw [hF] at hv
    obtain ⟨hx, rfl⟩ := hv
    rcases hw with h0 | h0 | h0
    · rw [if_pos h0] at hx
      cases hx
    · rw [if_neg (by omega), h0] at hx
      cases (show E = "java/lang/IndexOutOfBoundsException" from Sum.inr.inj hx)
      refine g_catch (hpc := 19) (by rw [htab]; exact gFl.hit C kc_L_13 (by decide) (by decide)) (fun z => ?_)
      refine g_astore (lv' := [(7, .ref z), (0, .ref a0), (1, .int x1), (2, .int x2), (3, .int x3), (4, .int x4), (5, .int x5), (6, .ref o)]) C d_L_rec_19 (by decide) rfl ?_
      refine g_iconst (v := 1) C d_L_rec_21 (by decide) ?_
      exact c_iret C hr hlocks hle d_L_rec_22 ⟨by rw [h0]; rfl, Or.inr ⟨by omega, rfl⟩⟩
    · rw [if_neg (by omega), h0] at hx
      cases (show E = "java/lang/IllegalStateException" from Sum.inr.inj hx)
      refine g_catch (hpc := 23) (by rw [htab]; exact gFl.pass C kc_L_13 (gE_nc hE).1 (by decide) (by decide) (gFl.hit C kc_L_15 (by decide) (by decide))) (fun z => ?_)
      refine g_astore (lv' := [(7, .ref z), (0, .ref a0), (1, .int x1), (2, .int x2), (3, .int x3), (4, .int x4), (5, .int x5), (6, .ref o)]) C d_L_rec_23 (by decide) rfl ?_
      refine g_iconst (v := 2) C d_L_rec_25 (by decide) ?_
      exact c_iret C hr hlocks hle d_L_rec_26 ⟨by rw [h0]; rfl, Or.inr ⟨by omega, rfl⟩⟩
theorem kw_L_choice : Cond.codeWith y_L_choice c_L_choice 6 (some .int) [(0, 12, 15, 13), (0, 12, 19, 15)] ∈ gT := gT_k3 199 rfl rfl
theorem lw_choice (l : Launch) (hf : l.flags = pinnedFlags ++ [noTraceFlag]) (D : va_G) (cs : Nat → ClassId) (B : Nat) (dE : Nat × Nat) (lim : Nat × Nat) (n : Nat) (M : gMem) (a0 : Nat) (x1 : Int32) (x2 : Int32) (x3 : Int32) (hS : S_N_choice cs lim n M a0 x1 x2 x3) (ha : cOk 0 M a0) (hw : (F_N_choice cs n M a0 x1 x2 x3).1 = 0 ∨ (F_N_choice cs n M a0 x1 x2 x3).1 = 1 ∨ (F_N_choice cs n M a0 x1 x2 x3).1 = 2) (o : Nat) (f0 : Nat → Int64) (ho : (F_N_choice cs n M a0 x1 x2 x3).2.2.1 o = some (oC cs f0)) : cMet l y_L_choice (Cond.codeWith y_L_choice c_L_choice 6 (some .int) [(0, 12, 15, 13), (0, 12, 19, 15)]) 8 145 D cs B dE (gA B) lim [.ref a0, .int x1, .int x2, .int x3, .ref o] M (wQ cs o wk (F_N_choice cs n M a0 x1 x2 x3)) := by
  refine cMet.ofH (by decide) (Nat.le_of_ble_eq_true rfl) (lv0 := [(0, .ref a0), (1, .int x1), (2, .int x2), (3, .int x3), (4, .ref o)]) rfl ?_
  intro p e s m args below meth c C hE hR0 hle hr hlocks htab
  replace htab : c.exceptionTable.toList = [⟨0, 12, 15, 13⟩, ⟨0, 12, 19, 15⟩] := htab
  generalize hF : (F_N_choice cs n M a0 x1 x2 x3) = w at *
  refine g_aload C d_L_choice_0 rfl ?_
  refine g_iconst (v := 0) C d_L_choice_2 (by decide) ?_
  refine g_aload_n C d_L_choice_3 rfl ?_
  refine g_iload_n C d_L_choice_4 rfl ?_
  refine g_iload_n C d_L_choice_5 rfl ?_
  refine g_iload_n C d_L_choice_6 rfl ?_
  refine c_call (av := [.ref a0, .int x1, .int x2, .int x3]) (rest := [.int 0, .ref o]) C hE (fun _ h => h) ⟨rfl, rfl⟩ hle (cc_N_choice l hf D cs B dE lim n M a0 x1 x2 x3 hS) (fun _ h => h) kd_N_choice ki_N (Nat.le_of_ble_eq_true rfl) (Nat.le_of_ble_eq_true rfl) d_L_choice_7 (Nat.le_of_ble_eq_true rfl) (c_fV (n := 3) (ci := 0) C hE.1 rfl km_L_32 kv_N_choice kl_N_choice kd_N_choice ⟨by decide, by decide, by decide⟩ rfl rfl d_L_choice_7 ha) (fun v M1 hv hle => ?_) (fun E M1 hv hle => ?_)
  · rw [hF] at hv
    obtain ⟨hx, rfl⟩ := hv
    by_cases h0 : w.1 = 0
    · rw [if_pos h0] at hx
      cases hx
      refine g_i2l C d_L_choice_10 rfl ?_
      refine g_last C hE.1 (t0 := 2) rfl d_L_choice_11 ho vp_in01 ?_
      refine g_goto C 23 d_L_choice_12 (by decide) ?_
      refine g_iconst (v := 0) C d_L_choice_23 (by decide) ?_
      exact c_iret C hr hlocks (cLe.up hle) d_L_choice_24 ⟨by rw [h0]; rfl, Or.inl ⟨h0, _, rfl, rfl⟩⟩
    · rw [if_neg h0] at hx
      cases hx
  · rw [hF] at hv
    obtain ⟨hx, rfl⟩ := hv
    rcases hw with h0 | h0 | h0
    · rw [if_pos h0] at hx
      cases hx
    · rw [if_neg (by omega), h0] at hx
      cases (show E = "java/lang/IndexOutOfBoundsException" from Sum.inr.inj hx)
      refine g_catch (hpc := 15) (by rw [htab]; exact gFl.hit C kc_L_13 (by decide) (by decide)) (fun z => ?_)
      refine g_astore (lv' := [(5, .ref z), (0, .ref a0), (1, .int x1), (2, .int x2), (3, .int x3), (4, .ref o)]) C d_L_choice_15 (by decide) rfl ?_
      refine g_iconst (v := 1) C d_L_choice_17 (by decide) ?_
      exact c_iret C hr hlocks hle d_L_choice_18 ⟨by rw [h0]; rfl, Or.inr ⟨by omega, rfl⟩⟩
    · rw [if_neg (by omega), h0] at hx
      cases (show E = "java/lang/IllegalStateException" from Sum.inr.inj hx)
      refine g_catch (hpc := 19) (by rw [htab]; exact gFl.pass C kc_L_13 (gE_nc hE).1 (by decide) (by decide) (gFl.hit C kc_L_15 (by decide) (by decide))) (fun z => ?_)
      refine g_astore (lv' := [(5, .ref z), (0, .ref a0), (1, .int x1), (2, .int x2), (3, .int x3), (4, .ref o)]) C d_L_choice_19 (by decide) rfl ?_
      refine g_iconst (v := 2) C d_L_choice_21 (by decide) ?_
      exact c_iret C hr hlocks hle d_L_choice_22 ⟨by rw [h0]; rfl, Or.inr ⟨by omega, rfl⟩⟩
theorem kw_L_fn : Cond.codeWith y_L_fn c_L_fn 6 (some .int) [(0, 12, 15, 13), (0, 12, 19, 15)] ∈ gT := gT_k3 206 rfl rfl
theorem lw_fn (l : Launch) (hf : l.flags = pinnedFlags ++ [noTraceFlag]) (D : va_G) (cs : Nat → ClassId) (B : Nat) (dE : Nat × Nat) (lim : Nat × Nat) (n : Nat) (M : gMem) (a0 : Nat) (x1 : Int32) (x2 : Int32) (x3 : Int32) (hS : S_N_fn cs lim n M a0 x1 x2 x3) (ha : cOk 0 M a0) (hw : (F_N_fn cs n M a0 x1 x2 x3).1 = 0 ∨ (F_N_fn cs n M a0 x1 x2 x3).1 = 1 ∨ (F_N_fn cs n M a0 x1 x2 x3).1 = 2) (o : Nat) (f0 : Nat → Int64) (ho : (F_N_fn cs n M a0 x1 x2 x3).2.2.1 o = some (oC cs f0)) : cMet l y_L_fn (Cond.codeWith y_L_fn c_L_fn 6 (some .int) [(0, 12, 15, 13), (0, 12, 19, 15)]) 8 145 D cs B dE (gA B) lim [.ref a0, .int x1, .int x2, .int x3, .ref o] M (wQ cs o wk (F_N_fn cs n M a0 x1 x2 x3)) := by
  refine cMet.ofH (by decide) (Nat.le_of_ble_eq_true rfl) (lv0 := [(0, .ref a0), (1, .int x1), (2, .int x2), (3, .int x3), (4, .ref o)]) rfl ?_
  intro p e s m args below meth c C hE hR0 hle hr hlocks htab
  replace htab : c.exceptionTable.toList = [⟨0, 12, 15, 13⟩, ⟨0, 12, 19, 15⟩] := htab
  generalize hF : (F_N_fn cs n M a0 x1 x2 x3) = w at *
  refine g_aload C d_L_fn_0 rfl ?_
  refine g_iconst (v := 0) C d_L_fn_2 (by decide) ?_
  refine g_aload_n C d_L_fn_3 rfl ?_
  refine g_iload_n C d_L_fn_4 rfl ?_
  refine g_iload_n C d_L_fn_5 rfl ?_
  refine g_iload_n C d_L_fn_6 rfl ?_
  refine c_call (av := [.ref a0, .int x1, .int x2, .int x3]) (rest := [.int 0, .ref o]) C hE (fun _ h => h) ⟨rfl, rfl⟩ hle (cc_N_fn l hf D cs B dE lim n M a0 x1 x2 x3 hS) (fun _ h => h) kd_N_fn ki_N (Nat.le_of_ble_eq_true rfl) (Nat.le_of_ble_eq_true rfl) d_L_fn_7 (Nat.le_of_ble_eq_true rfl) (c_fV (n := 3) (ci := 0) C hE.1 rfl km_L_35 kv_N_fn kl_N_fn kd_N_fn ⟨by decide, by decide, by decide⟩ rfl rfl d_L_fn_7 ha) (fun v M1 hv hle => ?_) (fun E M1 hv hle => ?_)
  · rw [hF] at hv
    obtain ⟨hx, rfl⟩ := hv
    by_cases h0 : w.1 = 0
    · rw [if_pos h0] at hx
      cases hx
      refine g_i2l C d_L_fn_10 rfl ?_
      refine g_last C hE.1 (t0 := 2) rfl d_L_fn_11 ho vp_in01 ?_
      refine g_goto C 23 d_L_fn_12 (by decide) ?_
      refine g_iconst (v := 0) C d_L_fn_23 (by decide) ?_
      exact c_iret C hr hlocks (cLe.up hle) d_L_fn_24 ⟨by rw [h0]; rfl, Or.inl ⟨h0, _, rfl, rfl⟩⟩
    · rw [if_neg h0] at hx
      cases hx
  · rw [hF] at hv
    obtain ⟨hx, rfl⟩ := hv
    rcases hw with h0 | h0 | h0
    · rw [if_pos h0] at hx
      cases hx
    · rw [if_neg (by omega), h0] at hx
      cases (show E = "java/lang/IndexOutOfBoundsException" from Sum.inr.inj hx)
      refine g_catch (hpc := 15) (by rw [htab]; exact gFl.hit C kc_L_13 (by decide) (by decide)) (fun z => ?_)
      refine g_astore (lv' := [(5, .ref z), (0, .ref a0), (1, .int x1), (2, .int x2), (3, .int x3), (4, .ref o)]) C d_L_fn_15 (by decide) rfl ?_
      refine g_iconst (v := 1) C d_L_fn_17 (by decide) ?_
      exact c_iret C hr hlocks hle d_L_fn_18 ⟨by rw [h0]; rfl, Or.inr ⟨by omega, rfl⟩⟩
    · rw [if_neg (by omega), h0] at hx
      cases (show E = "java/lang/IllegalStateException" from Sum.inr.inj hx)
      refine g_catch (hpc := 19) (by rw [htab]; exact gFl.pass C kc_L_13 (gE_nc hE).1 (by decide) (by decide) (gFl.hit C kc_L_15 (by decide) (by decide))) (fun z => ?_)
      refine g_astore (lv' := [(5, .ref z), (0, .ref a0), (1, .int x1), (2, .int x2), (3, .int x3), (4, .ref o)]) C d_L_fn_19 (by decide) rfl ?_
      refine g_iconst (v := 2) C d_L_fn_21 (by decide) ?_
      exact c_iret C hr hlocks hle d_L_fn_22 ⟨by rw [h0]; rfl, Or.inr ⟨by omega, rfl⟩⟩
theorem kw_L_clause : Cond.codeWith y_L_clause c_L_clause 7 (some .int) [(0, 14, 17, 13), (0, 14, 21, 15)] ∈ gT := gT_k3 213 rfl rfl
theorem lw_clause (l : Launch) (hf : l.flags = pinnedFlags ++ [noTraceFlag]) (D : va_G) (cs : Nat → ClassId) (B : Nat) (dE : Nat × Nat) (lim : Nat × Nat) (M : gMem) (a0 : Nat) (x1 : Int32) (x2 : Int32) (x3 : Int32) (x4 : Int32) (hS : S_N_clause cs lim M a0 x1 x2 x3 x4) (ha : cOk 0 M a0) (hw : (F_N_clause cs M a0 x1 x2 x3 x4).1 = 0 ∨ (F_N_clause cs M a0 x1 x2 x3 x4).1 = 1 ∨ (F_N_clause cs M a0 x1 x2 x3 x4).1 = 2) (o : Nat) (f0 : Nat → Int64) (ho : (F_N_clause cs M a0 x1 x2 x3 x4).2.2.1 o = some (oC cs f0)) : cMet l y_L_clause (Cond.codeWith y_L_clause c_L_clause 7 (some .int) [(0, 14, 17, 13), (0, 14, 21, 15)]) 8 145 D cs B dE (gA B) lim [.ref a0, .int x1, .int x2, .int x3, .int x4, .ref o] M (wQ cs o wk (F_N_clause cs M a0 x1 x2 x3 x4)) := by
  refine cMet.ofH (by decide) (Nat.le_of_ble_eq_true rfl) (lv0 := [(0, .ref a0), (1, .int x1), (2, .int x2), (3, .int x3), (4, .int x4), (5, .ref o)]) rfl ?_
  intro p e s m args below meth c C hE hR0 hle hr hlocks htab
  replace htab : c.exceptionTable.toList = [⟨0, 14, 17, 13⟩, ⟨0, 14, 21, 15⟩] := htab
  generalize hF : (F_N_clause cs M a0 x1 x2 x3 x4) = w at *
  refine g_aload C d_L_clause_0 rfl ?_
  refine g_iconst (v := 0) C d_L_clause_2 (by decide) ?_
  refine g_aload_n C d_L_clause_3 rfl ?_
  refine g_iload_n C d_L_clause_4 rfl ?_
  refine g_iload_n C d_L_clause_5 rfl ?_
  refine g_iload_n C d_L_clause_6 rfl ?_
  refine g_iload C d_L_clause_7 rfl ?_
  refine c_call (av := [.ref a0, .int x1, .int x2, .int x3, .int x4]) (rest := [.int 0, .ref o]) C hE (fun _ h => h) ⟨rfl, rfl⟩ hle (cc_N_clause l hf D cs B dE lim M a0 x1 x2 x3 x4 hS) (fun _ h => h) kd_N_clause ki_N (Nat.le_of_ble_eq_true rfl) (Nat.le_of_ble_eq_true rfl) d_L_clause_9 (Nat.le_of_ble_eq_true rfl) (c_fV (n := 4) (ci := 0) C hE.1 rfl km_L_38 kv_N_clause kl_N_clause kd_N_clause ⟨by decide, by decide, by decide⟩ rfl rfl d_L_clause_9 ha) (fun v M1 hv hle => ?_) (fun E M1 hv hle => ?_)
  · rw [hF] at hv
    obtain ⟨hx, rfl⟩ := hv
    by_cases h0 : w.1 = 0
    · rw [if_pos h0] at hx
      cases hx
      refine g_i2l C d_L_clause_12 rfl ?_
      refine g_last C hE.1 (t0 := 2) rfl d_L_clause_13 ho vp_in01 ?_
      refine g_goto C 25 d_L_clause_14 (by decide) ?_
      refine g_iconst (v := 0) C d_L_clause_25 (by decide) ?_
      exact c_iret C hr hlocks (cLe.up hle) d_L_clause_26 ⟨by rw [h0]; rfl, Or.inl ⟨h0, _, rfl, rfl⟩⟩
    · rw [if_neg h0] at hx
      cases hx
  · rw [hF] at hv
    obtain ⟨hx, rfl⟩ := hv
    rcases hw with h0 | h0 | h0
    · rw [if_pos h0] at hx
      cases hx
    · rw [if_neg (by omega), h0] at hx
      cases (show E = "java/lang/IndexOutOfBoundsException" from Sum.inr.inj hx)
      refine g_catch (hpc := 17) (by rw [htab]; exact gFl.hit C kc_L_13 (by decide) (by decide)) (fun z => ?_)
      refine g_astore (lv' := [(6, .ref z), (0, .ref a0), (1, .int x1), (2, .int x2), (3, .int x3), (4, .int x4), (5, .ref o)]) C d_L_clause_17 (by decide) rfl ?_
      refine g_iconst (v := 1) C d_L_clause_19 (by decide) ?_
      exact c_iret C hr hlocks hle d_L_clause_20 ⟨by rw [h0]; rfl, Or.inr ⟨by omega, rfl⟩⟩
    · rw [if_neg (by omega), h0] at hx
      cases (show E = "java/lang/IllegalStateException" from Sum.inr.inj hx)
      refine g_catch (hpc := 21) (by rw [htab]; exact gFl.pass C kc_L_13 (gE_nc hE).1 (by decide) (by decide) (gFl.hit C kc_L_15 (by decide) (by decide))) (fun z => ?_)
      refine g_astore (lv' := [(6, .ref z), (0, .ref a0), (1, .int x1), (2, .int x2), (3, .int x3), (4, .int x4), (5, .ref o)]) C d_L_clause_21 (by decide) rfl ?_
      refine g_iconst (v := 2) C d_L_clause_23 (by decide) ?_
      exact c_iret C hr hlocks hle d_L_clause_24 ⟨by rw [h0]; rfl, Or.inr ⟨by omega, rfl⟩⟩
theorem kw_L_handle : Cond.codeWith y_L_handle c_L_handle 7 (some .int) [(0, 14, 17, 13), (0, 14, 21, 15)] ∈ gT := gT_k3 232 rfl rfl
theorem lw_handle (l : Launch) (hf : l.flags = pinnedFlags ++ [noTraceFlag]) (D : va_G) (cs : Nat → ClassId) (B : Nat) (dE : Nat × Nat) (lim : Nat × Nat) (n : Nat) (M : gMem) (a0 : Nat) (x1 : Int32) (x2 : Int32) (x3 : Int32) (x4 : Int32) (hS : S_N_handle cs lim n M a0 x1 x2 x3 x4) (ha : cOk 0 M a0) (hw : (F_N_handle cs n M a0 x1 x2 x3 x4).1 = 0 ∨ (F_N_handle cs n M a0 x1 x2 x3 x4).1 = 1 ∨ (F_N_handle cs n M a0 x1 x2 x3 x4).1 = 2) (o : Nat) (f0 : Nat → Int64) (ho : (F_N_handle cs n M a0 x1 x2 x3 x4).2.2.1 o = some (oC cs f0)) : cMet l y_L_handle (Cond.codeWith y_L_handle c_L_handle 7 (some .int) [(0, 14, 17, 13), (0, 14, 21, 15)]) 8 146 D cs B dE (gA B) lim [.ref a0, .int x1, .int x2, .int x3, .int x4, .ref o] M (wQ cs o wk (F_N_handle cs n M a0 x1 x2 x3 x4)) := by
  refine cMet.ofH (by decide) (Nat.le_of_ble_eq_true rfl) (lv0 := [(0, .ref a0), (1, .int x1), (2, .int x2), (3, .int x3), (4, .int x4), (5, .ref o)]) rfl ?_
  intro p e s m args below meth c C hE hR0 hle hr hlocks htab
  replace htab : c.exceptionTable.toList = [⟨0, 14, 17, 13⟩, ⟨0, 14, 21, 15⟩] := htab
  generalize hF : (F_N_handle cs n M a0 x1 x2 x3 x4) = w at *
  refine g_aload C d_L_handle_0 rfl ?_
  refine g_iconst (v := 0) C d_L_handle_2 (by decide) ?_
  refine g_aload_n C d_L_handle_3 rfl ?_
  refine g_iload_n C d_L_handle_4 rfl ?_
  refine g_iload_n C d_L_handle_5 rfl ?_
  refine g_iload_n C d_L_handle_6 rfl ?_
  refine g_iload C d_L_handle_7 rfl ?_
  refine c_call (av := [.ref a0, .int x1, .int x2, .int x3, .int x4]) (rest := [.int 0, .ref o]) C hE (fun _ h => h) ⟨rfl, rfl⟩ hle (cc_N_handle l hf D cs B dE lim n M a0 x1 x2 x3 x4 hS) (fun _ h => h) kd_N_handle ki_N (Nat.le_of_ble_eq_true rfl) (Nat.le_of_ble_eq_true rfl) d_L_handle_9 (Nat.le_of_ble_eq_true rfl) (c_fV (n := 4) (ci := 0) C hE.1 rfl km_L_42 kv_N_handle kl_N_handle kd_N_handle ⟨by decide, by decide, by decide⟩ rfl rfl d_L_handle_9 ha) (fun v M1 hv hle => ?_) (fun E M1 hv hle => ?_)
  · rw [hF] at hv
    obtain ⟨hx, rfl⟩ := hv
    by_cases h0 : w.1 = 0
    · rw [if_pos h0] at hx
      cases hx
      refine g_i2l C d_L_handle_12 rfl ?_
      refine g_last C hE.1 (t0 := 2) rfl d_L_handle_13 ho vp_in01 ?_
      refine g_goto C 25 d_L_handle_14 (by decide) ?_
      refine g_iconst (v := 0) C d_L_handle_25 (by decide) ?_
      exact c_iret C hr hlocks (cLe.up hle) d_L_handle_26 ⟨by rw [h0]; rfl, Or.inl ⟨h0, _, rfl, rfl⟩⟩
    · rw [if_neg h0] at hx
      cases hx
  · rw [hF] at hv
    obtain ⟨hx, rfl⟩ := hv
    rcases hw with h0 | h0 | h0
    · rw [if_pos h0] at hx
      cases hx
    · rw [if_neg (by omega), h0] at hx
      cases (show E = "java/lang/IndexOutOfBoundsException" from Sum.inr.inj hx)
      refine g_catch (hpc := 17) (by rw [htab]; exact gFl.hit C kc_L_13 (by decide) (by decide)) (fun z => ?_)
      refine g_astore (lv' := [(6, .ref z), (0, .ref a0), (1, .int x1), (2, .int x2), (3, .int x3), (4, .int x4), (5, .ref o)]) C d_L_handle_17 (by decide) rfl ?_
      refine g_iconst (v := 1) C d_L_handle_19 (by decide) ?_
      exact c_iret C hr hlocks hle d_L_handle_20 ⟨by rw [h0]; rfl, Or.inr ⟨by omega, rfl⟩⟩
    · rw [if_neg (by omega), h0] at hx
      cases (show E = "java/lang/IllegalStateException" from Sum.inr.inj hx)
      refine g_catch (hpc := 21) (by rw [htab]; exact gFl.pass C kc_L_13 (gE_nc hE).1 (by decide) (by decide) (gFl.hit C kc_L_15 (by decide) (by decide))) (fun z => ?_)
      refine g_astore (lv' := [(6, .ref z), (0, .ref a0), (1, .int x1), (2, .int x2), (3, .int x3), (4, .int x4), (5, .ref o)]) C d_L_handle_21 (by decide) rfl ?_
      refine g_iconst (v := 2) C d_L_handle_23 (by decide) ?_
      exact c_iret C hr hlocks hle d_L_handle_24 ⟨by rw [h0]; rfl, Or.inr ⟨by omega, rfl⟩⟩
theorem kw_L_two : Cond.codeWith y_L_two c_L_two 6 (some .int) [(0, 12, 15, 13), (0, 12, 19, 15)] ∈ gT := gT_k4 3 rfl rfl
theorem lw_two (l : Launch) (hf : l.flags = pinnedFlags ++ [noTraceFlag]) (D : va_G) (cs : Nat → ClassId) (B : Nat) (dE : Nat × Nat) (lim : Nat × Nat) (n : Nat) (M : gMem) (a0 : Nat) (x1 : Int32) (x2 : Int32) (x3 : Int32) (hS : S_N_two cs lim n M a0 x1 x2 x3) (ha : cOk 0 M a0) (hw : (F_N_two cs n M a0 x1 x2 x3).1 = 0 ∨ (F_N_two cs n M a0 x1 x2 x3).1 = 1 ∨ (F_N_two cs n M a0 x1 x2 x3).1 = 2) (o : Nat) (f0 : Nat → Int64) (ho : (F_N_two cs n M a0 x1 x2 x3).2.2.1 o = some (oC cs f0)) : cMet l y_L_two (Cond.codeWith y_L_two c_L_two 6 (some .int) [(0, 12, 15, 13), (0, 12, 19, 15)]) 8 145 D cs B dE (gA B) lim [.ref a0, .int x1, .int x2, .int x3, .ref o] M (wQ cs o wk (F_N_two cs n M a0 x1 x2 x3)) := by
  refine cMet.ofH (by decide) (Nat.le_of_ble_eq_true rfl) (lv0 := [(0, .ref a0), (1, .int x1), (2, .int x2), (3, .int x3), (4, .ref o)]) rfl ?_
  intro p e s m args below meth c C hE hR0 hle hr hlocks htab
  replace htab : c.exceptionTable.toList = [⟨0, 12, 15, 13⟩, ⟨0, 12, 19, 15⟩] := htab
  generalize hF : (F_N_two cs n M a0 x1 x2 x3) = w at *
  refine g_aload C d_L_two_0 rfl ?_
  refine g_iconst (v := 0) C d_L_two_2 (by decide) ?_
  refine g_aload_n C d_L_two_3 rfl ?_
  refine g_iload_n C d_L_two_4 rfl ?_
  refine g_iload_n C d_L_two_5 rfl ?_
  refine g_iload_n C d_L_two_6 rfl ?_
  refine c_call (av := [.ref a0, .int x1, .int x2, .int x3]) (rest := [.int 0, .ref o]) C hE (fun _ h => h) ⟨rfl, rfl⟩ hle (cc_N_two l hf D cs B dE lim n M a0 x1 x2 x3 hS) (fun _ h => h) kd_N_two ki_N (Nat.le_of_ble_eq_true rfl) (Nat.le_of_ble_eq_true rfl) d_L_two_7 (Nat.le_of_ble_eq_true rfl) (c_fV (n := 3) (ci := 0) C hE.1 rfl km_L_45 kv_N_two kl_N_two kd_N_two ⟨by decide, by decide, by decide⟩ rfl rfl d_L_two_7 ha) (fun v M1 hv hle => ?_) (fun E M1 hv hle => ?_)
  · rw [hF] at hv
    obtain ⟨hx, rfl⟩ := hv
    by_cases h0 : w.1 = 0
    · rw [if_pos h0] at hx
      cases hx
      refine g_i2l C d_L_two_10 rfl ?_
      refine g_last C hE.1 (t0 := 2) rfl d_L_two_11 ho vp_in01 ?_
      refine g_goto C 23 d_L_two_12 (by decide) ?_
      refine g_iconst (v := 0) C d_L_two_23 (by decide) ?_
      exact c_iret C hr hlocks (cLe.up hle) d_L_two_24 ⟨by rw [h0]; rfl, Or.inl ⟨h0, _, rfl, rfl⟩⟩
    · rw [if_neg h0] at hx
      cases hx
  · rw [hF] at hv
    obtain ⟨hx, rfl⟩ := hv
    rcases hw with h0 | h0 | h0
    · rw [if_pos h0] at hx
      cases hx
    · rw [if_neg (by omega), h0] at hx
      cases (show E = "java/lang/IndexOutOfBoundsException" from Sum.inr.inj hx)
      refine g_catch (hpc := 15) (by rw [htab]; exact gFl.hit C kc_L_13 (by decide) (by decide)) (fun z => ?_)
      refine g_astore (lv' := [(5, .ref z), (0, .ref a0), (1, .int x1), (2, .int x2), (3, .int x3), (4, .ref o)]) C d_L_two_15 (by decide) rfl ?_
      refine g_iconst (v := 1) C d_L_two_17 (by decide) ?_
      exact c_iret C hr hlocks hle d_L_two_18 ⟨by rw [h0]; rfl, Or.inr ⟨by omega, rfl⟩⟩
    · rw [if_neg (by omega), h0] at hx
      cases (show E = "java/lang/IllegalStateException" from Sum.inr.inj hx)
      refine g_catch (hpc := 19) (by rw [htab]; exact gFl.pass C kc_L_13 (gE_nc hE).1 (by decide) (by decide) (gFl.hit C kc_L_15 (by decide) (by decide))) (fun z => ?_)
      refine g_astore (lv' := [(5, .ref z), (0, .ref a0), (1, .int x1), (2, .int x2), (3, .int x3), (4, .ref o)]) C d_L_two_19 (by decide) rfl ?_
      refine g_iconst (v := 2) C d_L_two_21 (by decide) ?_
      exact c_iret C hr hlocks hle d_L_two_22 ⟨by rw [h0]; rfl, Or.inr ⟨by omega, rfl⟩⟩
theorem kw_L_call : Cond.codeWith y_L_call c_L_call 5 (some .int) [(0, 10, 13, 13), (0, 10, 17, 15)] ∈ gT := gT_k4 11 rfl rfl
theorem lw_call (l : Launch) (hf : l.flags = pinnedFlags ++ [noTraceFlag]) (D : va_G) (cs : Nat → ClassId) (B : Nat) (dE : Nat × Nat) (lim : Nat × Nat) (n : Nat) (M : gMem) (a0 : Nat) (x1 : Int32) (x2 : Int32) (hS : S_N_call cs lim n M a0 x1 x2) (ha : cOk 0 M a0) (hw : (F_N_call cs n M a0 x1 x2).1 = 0 ∨ (F_N_call cs n M a0 x1 x2).1 = 1 ∨ (F_N_call cs n M a0 x1 x2).1 = 2) (o : Nat) (f0 : Nat → Int64) (ho : (F_N_call cs n M a0 x1 x2).2.2.1 o = some (oC cs f0)) : cMet l y_L_call (Cond.codeWith y_L_call c_L_call 5 (some .int) [(0, 10, 13, 13), (0, 10, 17, 15)]) 8 144 D cs B dE (gA B) lim [.ref a0, .int x1, .int x2, .ref o] M (wQ cs o wk (F_N_call cs n M a0 x1 x2)) := by
  refine cMet.ofH (by decide) (Nat.le_of_ble_eq_true rfl) (lv0 := [(0, .ref a0), (1, .int x1), (2, .int x2), (3, .ref o)]) rfl ?_
  intro p e s m args below meth c C hE hR0 hle hr hlocks htab
  replace htab : c.exceptionTable.toList = [⟨0, 10, 13, 13⟩, ⟨0, 10, 17, 15⟩] := htab
  generalize hF : (F_N_call cs n M a0 x1 x2) = w at *
  refine g_aload_n C d_L_call_0 rfl ?_
  refine g_iconst (v := 0) C d_L_call_1 (by decide) ?_
  refine g_aload_n C d_L_call_2 rfl ?_
  refine g_iload_n C d_L_call_3 rfl ?_
  refine g_iload_n C d_L_call_4 rfl ?_
  refine c_call (av := [.ref a0, .int x1, .int x2]) (rest := [.int 0, .ref o]) C hE (fun _ h => h) ⟨rfl, rfl⟩ hle (cc_N_call l hf D cs B dE lim n M a0 x1 x2 hS) (fun _ h => h) kd_N_call ki_N (Nat.le_of_ble_eq_true rfl) (Nat.le_of_ble_eq_true rfl) d_L_call_5 (Nat.le_of_ble_eq_true rfl) (c_fV (n := 2) (ci := 0) C hE.1 rfl km_L_48 kv_N_call kl_N_call kd_N_call ⟨by decide, by decide, by decide⟩ rfl rfl d_L_call_5 ha) (fun v M1 hv hle => ?_) (fun E M1 hv hle => ?_)
  · rw [hF] at hv
    obtain ⟨hx, rfl⟩ := hv
    by_cases h0 : w.1 = 0
    · rw [if_pos h0] at hx
      cases hx
      refine g_i2l C d_L_call_8 rfl ?_
      refine g_last C hE.1 (t0 := 2) rfl d_L_call_9 ho vp_in01 ?_
      refine g_goto C 21 d_L_call_10 (by decide) ?_
      refine g_iconst (v := 0) C d_L_call_21 (by decide) ?_
      exact c_iret C hr hlocks (cLe.up hle) d_L_call_22 ⟨by rw [h0]; rfl, Or.inl ⟨h0, _, rfl, rfl⟩⟩
    · rw [if_neg h0] at hx
      cases hx
  · rw [hF] at hv
    obtain ⟨hx, rfl⟩ := hv
    rcases hw with h0 | h0 | h0
    · rw [if_pos h0] at hx
      cases hx
    · rw [if_neg (by omega), h0] at hx
      cases (show E = "java/lang/IndexOutOfBoundsException" from Sum.inr.inj hx)
      refine g_catch (hpc := 13) (by rw [htab]; exact gFl.hit C kc_L_13 (by decide) (by decide)) (fun z => ?_)
      refine g_astore (lv' := [(4, .ref z), (0, .ref a0), (1, .int x1), (2, .int x2), (3, .ref o)]) C d_L_call_13 (by decide) rfl ?_
      refine g_iconst (v := 1) C d_L_call_15 (by decide) ?_
      exact c_iret C hr hlocks hle d_L_call_16 ⟨by rw [h0]; rfl, Or.inr ⟨by omega, rfl⟩⟩
    · rw [if_neg (by omega), h0] at hx
      cases (show E = "java/lang/IllegalStateException" from Sum.inr.inj hx)
      refine g_catch (hpc := 17) (by rw [htab]; exact gFl.pass C kc_L_13 (gE_nc hE).1 (by decide) (by decide) (gFl.hit C kc_L_15 (by decide) (by decide))) (fun z => ?_)
      refine g_astore (lv' := [(4, .ref z), (0, .ref a0), (1, .int x1), (2, .int x2), (3, .ref o)]) C d_L_call_17 (by decide) rfl ?_
      refine g_iconst (v := 2) C d_L_call_19 (by decide) ?_
      exact c_iret C hr hlocks hle d_L_call_20 ⟨by rw [h0]; rfl, Or.inr ⟨by omega, rfl⟩⟩
theorem kw_L_perform : Cond.codeWith y_L_perform c_L_perform 5 (some .int) [(0, 10, 13, 13), (0, 10, 17, 15)] ∈ gT := gT_k4 18 rfl rfl
theorem lw_perform (l : Launch) (hf : l.flags = pinnedFlags ++ [noTraceFlag]) (D : va_G) (cs : Nat → ClassId) (B : Nat) (dE : Nat × Nat) (lim : Nat × Nat) (n : Nat) (M : gMem) (a0 : Nat) (x1 : Int32) (x2 : Int32) (hS : S_N_perform cs lim n M a0 x1 x2) (ha : cOk 0 M a0) (hw : (F_N_perform cs n M a0 x1 x2).1 = 0 ∨ (F_N_perform cs n M a0 x1 x2).1 = 1 ∨ (F_N_perform cs n M a0 x1 x2).1 = 2) (o : Nat) (f0 : Nat → Int64) (ho : (F_N_perform cs n M a0 x1 x2).2.2.1 o = some (oC cs f0)) : cMet l y_L_perform (Cond.codeWith y_L_perform c_L_perform 5 (some .int) [(0, 10, 13, 13), (0, 10, 17, 15)]) 8 144 D cs B dE (gA B) lim [.ref a0, .int x1, .int x2, .ref o] M (wQ cs o wk (F_N_perform cs n M a0 x1 x2)) := by
  refine cMet.ofH (by decide) (Nat.le_of_ble_eq_true rfl) (lv0 := [(0, .ref a0), (1, .int x1), (2, .int x2), (3, .ref o)]) rfl ?_
  intro p e s m args below meth c C hE hR0 hle hr hlocks htab
  replace htab : c.exceptionTable.toList = [⟨0, 10, 13, 13⟩, ⟨0, 10, 17, 15⟩] := htab
  generalize hF : (F_N_perform cs n M a0 x1 x2) = w at *
  refine g_aload_n C d_L_perform_0 rfl ?_
  refine g_iconst (v := 0) C d_L_perform_1 (by decide) ?_
  refine g_aload_n C d_L_perform_2 rfl ?_
  refine g_iload_n C d_L_perform_3 rfl ?_
  refine g_iload_n C d_L_perform_4 rfl ?_
  refine c_call (av := [.ref a0, .int x1, .int x2]) (rest := [.int 0, .ref o]) C hE (fun _ h => h) ⟨rfl, rfl⟩ hle (cc_N_perform l hf D cs B dE lim n M a0 x1 x2 hS) (fun _ h => h) kd_N_perform ki_N (Nat.le_of_ble_eq_true rfl) (Nat.le_of_ble_eq_true rfl) d_L_perform_5 (Nat.le_of_ble_eq_true rfl) (c_fV (n := 2) (ci := 0) C hE.1 rfl km_L_51 kv_N_perform kl_N_perform kd_N_perform ⟨by decide, by decide, by decide⟩ rfl rfl d_L_perform_5 ha) (fun v M1 hv hle => ?_) (fun E M1 hv hle => ?_)
  · rw [hF] at hv
    obtain ⟨hx, rfl⟩ := hv
    by_cases h0 : w.1 = 0
    · rw [if_pos h0] at hx
      cases hx
      refine g_i2l C d_L_perform_8 rfl ?_
      refine g_last C hE.1 (t0 := 2) rfl d_L_perform_9 ho vp_in01 ?_
      refine g_goto C 21 d_L_perform_10 (by decide) ?_
      refine g_iconst (v := 0) C d_L_perform_21 (by decide) ?_
      exact c_iret C hr hlocks (cLe.up hle) d_L_perform_22 ⟨by rw [h0]; rfl, Or.inl ⟨h0, _, rfl, rfl⟩⟩
    · rw [if_neg h0] at hx
      cases hx
  · rw [hF] at hv
    obtain ⟨hx, rfl⟩ := hv
    rcases hw with h0 | h0 | h0
    · rw [if_pos h0] at hx
      cases hx
    · rw [if_neg (by omega), h0] at hx
      cases (show E = "java/lang/IndexOutOfBoundsException" from Sum.inr.inj hx)
      refine g_catch (hpc := 13) (by rw [htab]; exact gFl.hit C kc_L_13 (by decide) (by decide)) (fun z => ?_)
      refine g_astore (lv' := [(4, .ref z), (0, .ref a0), (1, .int x1), (2, .int x2), (3, .ref o)]) C d_L_perform_13 (by decide) rfl ?_
      refine g_iconst (v := 1) C d_L_perform_15 (by decide) ?_
      exact c_iret C hr hlocks hle d_L_perform_16 ⟨by rw [h0]; rfl, Or.inr ⟨by omega, rfl⟩⟩
    · rw [if_neg (by omega), h0] at hx
      cases (show E = "java/lang/IllegalStateException" from Sum.inr.inj hx)
      refine g_catch (hpc := 17) (by rw [htab]; exact gFl.pass C kc_L_13 (gE_nc hE).1 (by decide) (by decide) (gFl.hit C kc_L_15 (by decide) (by decide))) (fun z => ?_)
      refine g_astore (lv' := [(4, .ref z), (0, .ref a0), (1, .int x1), (2, .int x2), (3, .ref o)]) C d_L_perform_17 (by decide) rfl ?_
      refine g_iconst (v := 2) C d_L_perform_19 (by decide) ?_
      exact c_iret C hr hlocks hle d_L_perform_20 ⟨by rw [h0]; rfl, Or.inr ⟨by omega, rfl⟩⟩
theorem kw_L_check : Cond.codeWith y_L_check c_L_check 4 (some .int) [(0, 9, 12, 13), (0, 9, 15, 15), (0, 9, 18, 58)] ∈ gT := gT_k4 25 rfl rfl
theorem lw_check (l : Launch) (hf : l.flags = pinnedFlags ++ [noTraceFlag]) (D : va_G) (cs : Nat → ClassId) (B : Nat) (dE : Nat × Nat) (lim : Nat × Nat) (n : Nat) (M : gMem) (a0 : Nat) (x1 : Int32) (hS : S_N_check cs lim n M a0 x1) (ha : cOk 0 M a0) (hw : (F_N_check cs n M a0 x1).1 = 0 ∨ (F_N_check cs n M a0 x1).1 = 1 ∨ (F_N_check cs n M a0 x1).1 = 2 ∨ (F_N_check cs n M a0 x1).1 = 3) (o : Nat) (f0 : Nat → Int64) (ho : (F_N_check cs n M a0 x1).2.2.1 o = some (oC cs f0)) : cMet l y_L_check (Cond.codeWith y_L_check c_L_check 4 (some .int) [(0, 9, 12, 13), (0, 9, 15, 15), (0, 9, 18, 58)]) 507 16869 D cs B dE (gA B) lim [.ref a0, .int x1, .ref o] M (wQ cs o wk (F_N_check cs n M a0 x1)) := by
  refine cMet.ofH (by decide) (Nat.le_of_ble_eq_true rfl) (lv0 := [(0, .ref a0), (1, .int x1), (2, .ref o)]) rfl ?_
  intro p e s m args below meth c C hE hR0 hle hr hlocks htab
  replace htab : c.exceptionTable.toList = [⟨0, 9, 12, 13⟩, ⟨0, 9, 15, 15⟩, ⟨0, 9, 18, 58⟩] := htab
  generalize hF : (F_N_check cs n M a0 x1) = w at *
  refine g_aload_n C d_L_check_0 rfl ?_
  refine g_iconst (v := 0) C d_L_check_1 (by decide) ?_
  refine g_aload_n C d_L_check_2 rfl ?_
  refine g_iload_n C d_L_check_3 rfl ?_
  refine c_call (av := [.ref a0, .int x1]) (rest := [.int 0, .ref o]) C hE (fun _ h => h) ⟨rfl, rfl⟩ hle (cc_N_check l hf D cs B dE lim n M a0 x1 hS) (fun _ h => h) kd_N_check ki_N (Nat.le_of_ble_eq_true rfl) (Nat.le_of_ble_eq_true rfl) d_L_check_4 (Nat.le_of_ble_eq_true rfl) (c_fV (n := 1) (ci := 0) C hE.1 rfl km_L_54 kv_N_check kl_N_check kd_N_check ⟨by decide, by decide, by decide⟩ rfl rfl d_L_check_4 ha) (fun v M1 hv hle => ?_) (fun E M1 hv hle => ?_)
  · rw [hF] at hv
    obtain ⟨hx, rfl⟩ := hv
    by_cases h0 : w.1 = 0
    · rw [if_pos h0] at hx
      cases hx
      refine g_i2l C d_L_check_7 rfl ?_
      refine g_last C hE.1 (t0 := 2) rfl d_L_check_8 ho vp_in01 ?_
      refine g_goto C 21 d_L_check_9 (by decide) ?_
      refine g_iconst (v := 0) C d_L_check_21 (by decide) ?_
      exact c_iret C hr hlocks (cLe.up hle) d_L_check_22 ⟨by rw [h0]; rfl, Or.inl ⟨h0, _, rfl, rfl⟩⟩
    · rw [if_neg h0] at hx
      cases hx
  · rw [hF] at hv
    obtain ⟨hx, rfl⟩ := hv
    rcases hw with h0 | h0 | h0 | h0
    · rw [if_pos h0] at hx
      cases hx
    · rw [if_neg (by omega), h0] at hx
      cases (show E = "java/lang/IndexOutOfBoundsException" from Sum.inr.inj hx)
      refine g_catch (hpc := 12) (by rw [htab]; exact gFl.hit C kc_L_13 (by decide) (by decide)) (fun z => ?_)
      refine g_astore_n (lv' := [(3, .ref z), (0, .ref a0), (1, .int x1), (2, .ref o)]) C d_L_check_12 (by decide) rfl ?_
      refine g_iconst (v := 1) C d_L_check_13 (by decide) ?_
      exact c_iret C hr hlocks hle d_L_check_14 ⟨by rw [h0]; rfl, Or.inr ⟨by omega, rfl⟩⟩
    · rw [if_neg (by omega), h0] at hx
      cases (show E = "java/lang/IllegalStateException" from Sum.inr.inj hx)
      refine g_catch (hpc := 15) (by rw [htab]; exact gFl.pass C kc_L_13 (gE_nc hE).1 (by decide) (by decide) (gFl.hit C kc_L_15 (by decide) (by decide))) (fun z => ?_)
      refine g_astore_n (lv' := [(3, .ref z), (0, .ref a0), (1, .int x1), (2, .ref o)]) C d_L_check_15 (by decide) rfl ?_
      refine g_iconst (v := 2) C d_L_check_16 (by decide) ?_
      exact c_iret C hr hlocks hle d_L_check_17 ⟨by rw [h0]; rfl, Or.inr ⟨by omega, rfl⟩⟩
    · rw [if_neg (by omega), h0] at hx
      cases (show E = "java/lang/IllegalArgumentException" from Sum.inr.inj hx)
      refine g_catch (hpc := 18) (by rw [htab]; exact gFl.pass C kc_L_13 (gE_nc hE).2.1 (by decide) (by decide) (gFl.pass C kc_L_15 (gE_nc hE).2.2 (by decide) (by decide) (gFl.hit C kc_L_58 (by decide) (by decide)))) (fun z => ?_)
      refine g_astore_n (lv' := [(3, .ref z), (0, .ref a0), (1, .int x1), (2, .ref o)]) C d_L_check_18 (by decide) rfl ?_
      refine g_iconst (v := 3) C d_L_check_19 (by decide) ?_
      exact c_iret C hr hlocks hle d_L_check_20 ⟨by rw [h0]; rfl, Or.inr ⟨by omega, rfl⟩⟩
theorem kw_L_start : Cond.codeWith y_L_start c_L_start 2 (some .int) [(0, 4, 7, 15)] ∈ gT := gT_k4 176 rfl rfl
theorem lw_start (l : Launch) (hf : l.flags = pinnedFlags ++ [noTraceFlag]) (D : va_G) (cs : Nat → ClassId) (B : Nat) (dE : Nat × Nat) (lim : Nat × Nat) (M : gMem) (a0 : Nat) (hS : S_N_start cs lim dE M a0) (ha : cOk 0 M a0) (hw : (F_N_start cs dE M a0).1 = 0 ∨ (F_N_start cs dE M a0).1 = 2) : cMet l y_L_start (Cond.codeWith y_L_start c_L_start 2 (some .int) [(0, 4, 7, 15)]) 12 252 D cs B dE (gA B) lim [.ref a0] M (vQ2 ws (F_N_start cs dE M a0)) := by
  refine cMet.ofH (by decide) (Nat.le_of_ble_eq_true rfl) (lv0 := [(0, .ref a0)]) rfl ?_
  intro p e s m args below meth c C hE hR0 hle hr hlocks htab
  replace htab : c.exceptionTable.toList = [⟨0, 4, 7, 15⟩] := htab
  generalize hF : (F_N_start cs dE M a0) = w at *
  refine g_aload_n C d_L_start_0 rfl ?_
  refine c_call (av := [.ref a0]) (rest := []) C hE (fun _ h => h) ⟨rfl, rfl⟩ hle (cc_N_start l hf D cs B dE lim M a0  hS) (fun _ h => h) kd_N_start ki_N (Nat.le_of_ble_eq_true rfl) (Nat.le_of_ble_eq_true rfl) d_L_start_1 (Nat.le_of_ble_eq_true rfl) (c_fV (n := 0) (ci := 0) C hE.1 rfl km_L_60 kv_N_start kl_N_start kd_N_start ⟨by decide, by decide, by decide⟩ rfl rfl d_L_start_1 ha) (fun v M1 hv hle => ?_) (fun E M1 hv hle => ?_)
  · rw [hF] at hv
    obtain ⟨hx, rfl⟩ := hv
    by_cases h0 : w.1 = 0
    · rw [if_pos h0] at hx
      cases hx
      refine g_goto C 10 d_L_start_4 (by decide) ?_
      refine g_iconst (v := 0) C d_L_start_10 (by decide) ?_
      exact c_iret C hr hlocks hle d_L_start_11 ⟨by rw [h0]; rfl, rfl⟩
    · rw [if_neg h0] at hx
      cases hx
  · rw [hF] at hv
    obtain ⟨hx, rfl⟩ := hv
    rcases hw with h0 | h0
    · rw [if_pos h0] at hx
      cases hx
    · rw [if_neg (by omega), h0] at hx
      cases (show E = "java/lang/IllegalStateException" from Sum.inr.inj hx)
      refine g_catch (hpc := 7) (by rw [htab]; exact gFl.hit C kc_L_15 (by decide) (by decide)) (fun z => ?_)
      refine g_astore_n (lv' := [(1, .ref z), (0, .ref a0)]) C d_L_start_7 (by decide) rfl ?_
      refine g_iconst (v := 1) C d_L_start_8 (by decide) ?_
      exact c_iret C hr hlocks hle d_L_start_9 ⟨by rw [h0]; rfl, rfl⟩
theorem kw_L_run : Cond.codeWith y_L_run c_L_run 4 (some .int) [(0, 9, 12, 15), (0, 9, 15, 58)] ∈ gT := gT_k5 61 rfl rfl
theorem lw_run (l : Launch) (hf : l.flags = pinnedFlags ++ [noTraceFlag]) (D : va_G) (cs : Nat → ClassId) (B : Nat) (dE : Nat × Nat) (lim : Nat × Nat) (n : Nat) (M : gMem) (a0 : Nat) (x1 : Int32) (hS : S_N_run cs lim dE n M a0 x1) (ha : cOk 0 M a0) (hw : (F_N_run cs dE n M a0 x1).1 = 0 ∨ (F_N_run cs dE n M a0 x1).1 = 2 ∨ (F_N_run cs dE n M a0 x1).1 = 3) (o : Nat) (f0 : Nat → Int64) (ho : (F_N_run cs dE n M a0 x1).2.2.1 o = some (oC cs f0)) : cMet l y_L_run (Cond.codeWith y_L_run c_L_run 4 (some .int) [(0, 9, 12, 15), (0, 9, 15, 58)]) 15 331 D cs B dE (gA B) lim [.ref a0, .int x1, .ref o] M (wQ cs o wr (F_N_run cs dE n M a0 x1)) := by
  refine cMet.ofH (by decide) (Nat.le_of_ble_eq_true rfl) (lv0 := [(0, .ref a0), (1, .int x1), (2, .ref o)]) rfl ?_
  intro p e s m args below meth c C hE hR0 hle hr hlocks htab
  replace htab : c.exceptionTable.toList = [⟨0, 9, 12, 15⟩, ⟨0, 9, 15, 58⟩] := htab
  generalize hF : (F_N_run cs dE n M a0 x1) = w at *
  refine g_aload_n C d_L_run_0 rfl ?_
  refine g_iconst (v := 0) C d_L_run_1 (by decide) ?_
  refine g_aload_n C d_L_run_2 rfl ?_
  refine g_iload_n C d_L_run_3 rfl ?_
  refine c_call (av := [.ref a0, .int x1]) (rest := [.int 0, .ref o]) C hE (fun _ h => h) ⟨rfl, rfl⟩ hle (cc_N_run l hf D cs B dE lim n M a0 x1 hS) (fun _ h => h) kd_N_run ki_N (Nat.le_of_ble_eq_true rfl) (Nat.le_of_ble_eq_true rfl) d_L_run_4 (Nat.le_of_ble_eq_true rfl) (c_fV (n := 1) (ci := 0) C hE.1 rfl km_L_63 kv_N_run kl_N_run kd_N_run ⟨by decide, by decide, by decide⟩ rfl rfl d_L_run_4 ha) (fun v M1 hv hle => ?_) (fun E M1 hv hle => ?_)
  · rw [hF] at hv
    obtain ⟨hx, rfl⟩ := hv
    by_cases h0 : w.1 = 0
    · rw [if_pos h0] at hx
      cases hx
      refine g_i2l C d_L_run_7 rfl ?_
      refine g_last C hE.1 (t0 := 2) rfl d_L_run_8 ho vp_in01 ?_
      refine g_goto C 18 d_L_run_9 (by decide) ?_
      refine g_iconst (v := 0) C d_L_run_18 (by decide) ?_
      exact c_iret C hr hlocks (cLe.up hle) d_L_run_19 ⟨by rw [h0]; rfl, Or.inl ⟨h0, _, rfl, rfl⟩⟩
    · rw [if_neg h0] at hx
      cases hx
  · rw [hF] at hv
    obtain ⟨hx, rfl⟩ := hv
    rcases hw with h0 | h0 | h0
    · rw [if_pos h0] at hx
      cases hx
    · rw [if_neg (by omega), h0] at hx
      cases (show E = "java/lang/IllegalStateException" from Sum.inr.inj hx)
      refine g_catch (hpc := 12) (by rw [htab]; exact gFl.hit C kc_L_15 (by decide) (by decide)) (fun z => ?_)
      refine g_astore_n (lv' := [(3, .ref z), (0, .ref a0), (1, .int x1), (2, .ref o)]) C d_L_run_12 (by decide) rfl ?_
      refine g_iconst (v := 1) C d_L_run_13 (by decide) ?_
      exact c_iret C hr hlocks hle d_L_run_14 ⟨by rw [h0]; rfl, Or.inr ⟨by omega, rfl⟩⟩
    · rw [if_neg (by omega), h0] at hx
      cases (show E = "java/lang/IllegalArgumentException" from Sum.inr.inj hx)
      refine g_catch (hpc := 15) (by rw [htab]; exact gFl.pass C kc_L_15 (gE_nc hE).2.2 (by decide) (by decide) (gFl.hit C kc_L_58 (by decide) (by decide))) (fun z => ?_)
      refine g_astore_n (lv' := [(3, .ref z), (0, .ref a0), (1, .int x1), (2, .ref o)]) C d_L_run_15 (by decide) rfl ?_
      refine g_iconst (v := 2) C d_L_run_16 (by decide) ?_
      exact c_iret C hr hlocks hle d_L_run_17 ⟨by rw [h0]; rfl, Or.inr ⟨by omega, rfl⟩⟩
