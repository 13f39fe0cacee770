/-! a throw behind writes: the walk begins anew at the state that stands -/
section CLq
variable {p : Program} {l : Launch} {e : Env} {R : Room} {s : State} {m : MethodId} {args : Array Value} {below : List Frame} {meth : Method} {c : Code} {nL : Nat} {D : va_G} {B : Nat} {dE : Nat × Nat} {A : Nat → Prop} {Q : State → Prop} {M0 M : gMem} {cells slots pc : Nat} {lv : List (Nat × Value)} {rest st : List Value} {cc : ByteArray} {own : String} {cs : Nat → ClassId} {lim : Nat × Nat} {P : Heap → Prop} {T : State} {locs : List Loc} {K : gOut → gMem → Prop}
theorem Stand.again (X : Stand p l e R s m args below meth c T locs cells slots) (h1 : cells ≤ R.cells) (h2 : slots ≤ R.slots) : Stand p l e ({ frames := R.frames, cells := R.cells - cells, slots := R.slots - slots, locals := R.locals } : Room) (T.setFrames (.invoking m args :: below)) m args below meth c T [] 0 0 := by
  have hcur : T.cur < T.threads.size := State.cur_lt_of_top X.here.top
  have hF : (T.setFrames (.invoking m args :: below)).frames = .invoking m args :: below := State.frames_setFrames _ hcur
  have hm : T.vm.method? m = some meth := by rw [X.warmed.alike.method?]; exact X.method
  refine ⟨X.admits, X.cas, X.clock, hF, ?_, ?_, hm, X.code, X.here, X.tail, State.WarmedH.refl T, ?_, ?_, ?_⟩
  · obtain ⟨r1, r2, r3, r4⟩ := State.hasRoom_stack X.room
    have r5 := State.hasRoom_real X.room
    have h := X.room
    simp only [State.hasRoom, Bool.and_eq_true, decide_eq_true_eq] at h
    rw [State.localsInUse_invoking X.frames X.method X.code] at r3 r4 r5
    rw [X.frames, List.length_cons] at r1 r2
    have hU : (T.setFrames (.invoking m args :: below)).localsInUse = _ := State.localsInUse_invoking hF (meth := meth) (c := c) hm X.code
    have hz := X.heapSize
    have hu := X.used
    have hb : T.slotsTrue = true := X.book
    simp only [State.hasRoom, Bool.and_eq_true, decide_eq_true_eq, hF, hU, List.length_cons, State.stackLimits_setFrames, State.stackBytes_setFrames, X.limits, X.bytes]
    refine ⟨⟨⟨⟨by omega, by omega, by omega, by omega, by omega, h.1.1.1.2.2.2.2.2⟩, ?_⟩, ?_⟩, hb⟩
    · have := h.1.1.2
      show T.heap.size + (R.cells - cells) ≤ _
      omega
    · have := h.1.2
      show T.slotsUsed + (R.slots - slots) ≤ _
      omega
  · have h := X.hears
    unfold State.hears at h ⊢
    cases below with
    | nil => simpa [X.warmed.alike.method?] using h
    | cons f r =>
      cases f <;> first | (simpa [X.warmed.alike.method?] using h) | skip
      rename_i g
      have e1 : (T.setFrames (.invoking m args :: .java g :: r)).code? g.method = s.code? g.method := by
        have := State.code?_setVm X.warmed.alike g.method
        exact this
      simpa [e1] using h
  · exact (State.stackLimits_setFrames _ _ _).symm
  · exact (State.stackBytes_setFrames _ _).symm
  · have hx : ∃ x, T.threads[T.cur]? = some x := ⟨_, Array.getElem?_eq_getElem hcur⟩
    obtain ⟨x, hx⟩ := hx
    obtain ⟨-, z2, z3, z4, z5, z6⟩ := State.sameButNew.refl T hx
    refine ⟨?_, z2, z3, z4, z5, z6⟩
    show T = ({ (T.setFrames (.invoking m args :: below)).setFrames T.frames with heap := T.heap, slotsUsed := T.slotsUsed } : State)
    rw [State.setFrames_setFrames, State.setFrames_self hx]
/-- CallFix at a state that has come to be -/
theorem CallFix.again (C : CallFix p m c cc nL s args gT own) {U : State} (hW : s.WarmedH U.vm) : CallFix p m c cc nL U args gT own :=
  ⟨C.1, C.2.1, C.2.2.1, by rw [hW.alike.findClass]; exact C.2.2.2.1, fun w hw => pay_in C.2.2.2.2 gT_good w hw args U hW⟩
theorem c_late (hA : ∀ q, A q → B ≤ q) (C : CallFix p m c cc nL s args gT own) (hE : gEnv D gcl (gtys cs) gz B dE s) (hRm : R.cells = lim.1 - M0.2.1 ∧ R.slots = lim.2 - M0.2.2) (hle : cLe lim M0 M)
    (k : ∀ U : State, CallFix p m c cc nL U args gT own → gEnv D gcl (gtys cs) gz B dE U → gR D gcl B M U.heap → GW p l e ({ frames := R.frames, cells := lim.1 - M.2.1, slots := lim.2 - M.2.2, locals := R.locals } : Room) U m args below meth c nL (fun _ => False) (cQ0 below D B (fun _ => False) lim M K args U) (gR D gcl B M) (M.2.1 - M.2.1) (M.2.2 - M.2.2) pc lv st) :
    GW p l e R s m args below meth c nL A (cQ0 below D B A lim M0 K args s) (gR D gcl B M) (M.2.1 - M0.2.1) (M.2.2 - M0.2.2) pc lv st := by
  intro H locs ls hR hS hl T hT X
  obtain ⟨l1, l2, l3, l4⟩ := id hle
  have hW := X.warmed
  have hW' : s.WarmedH (T.setFrames (.invoking m args :: below)).vm := hW
  have hE' : gEnv D gcl (gtys cs) gz B dE (T.setFrames (.invoking m args :: below)) := hE.step hW' (fun q h1 h2 => by
    show T.heap[q]? = _
    rw [hT]
    exact hS.2.1 q h1 (fun z => h2 (hA q z)))
  have hR' : gR D gcl B M (T.setFrames (.invoking m args :: below)).heap := by
    show gR D gcl B M T.heap
    rw [hT]
    exact hR
  have XA := Stand.again X (by rw [hRm.1]; omega) (by rw [hRm.2]; omega)
  have hroom : ({ frames := R.frames, cells := R.cells - (M.2.1 - M0.2.1), slots := R.slots - (M.2.2 - M0.2.2), locals := R.locals } : Room) = { frames := R.frames, cells := lim.1 - M.2.1, slots := lim.2 - M.2.2, locals := R.locals } := by
    rw [hRm.1, hRm.2, show lim.1 - M0.2.1 - (M.2.1 - M0.2.1) = lim.1 - M.2.1 by omega, show lim.2 - M0.2.2 - (M.2.2 - M0.2.2) = lim.2 - M.2.2 by omega]
  rw [hroom] at XA
  have kk := k (T.setFrames (.invoking m args :: below)) (C.again hW') hE' hR' H [] ls hR ⟨by show T.heap.size ≤ _; rw [hT]; exact Nat.le_refl _, fun q _ _ => by show H[q]? = T.heap[q]?; rw [hT], fun q hq => by cases hq⟩ hl
  rw [Nat.sub_self, Nat.sub_self] at kk
  obtain ⟨t, ht, o, g1, g2, L, kk', n, ⟨x, M', q1, ⟨r1, r2, r3, r4⟩, q3, q4⟩, ⟨w1, w2⟩, hL⟩ := kk T hT XA
  subst r1 r2
  obtain ⟨m1, m2, m3, m4⟩ := r3
  have hL0 : L = [] := by
    cases L with
    | nil => rfl
    | cons a r => exact (hL a List.mem_cons_self).elim
  subst hL0
  have w3 : s.sameButNew ({ t with vm := s.vm } : State) (locs ++ []) (M.2.1 - M0.2.1 + (M'.2.1 - M.2.1)) (M.2.2 - M0.2.2 + (M'.2.2 - M.2.2)) := by
    have y1 := X.same.setFrames (.invoking m args :: below) X.cur
    exact y1.trans (w2.setVm s.vm)
  rw [List.append_nil] at w3
  refine ⟨t, ht, o, g1, g2, locs, M'.2.1 - M0.2.1, M'.2.2 - M0.2.2, ⟨x, M', q1, ⟨rfl, rfl, ⟨by omega, m2, by omega, m4⟩, r4⟩, q3, ?_⟩, ⟨hW.trans w1, ?_⟩, fun q hq => hS.2.2 q hq⟩
  · obtain ⟨f1, f2⟩ := q4
    have f1' : H.size ≤ t.heap.size := by rw [← hT]; exact f1
    refine ⟨Nat.le_trans hS.1 f1', fun q hq hn => ?_⟩
    have := f2 q (by show q < T.heap.size; rw [hT]; exact Nat.lt_of_lt_of_le hq hS.1) (fun h => h)
    rw [this]
    show T.heap[q]? = _
    rw [hT]
    exact hS.2.1 q hq hn
  · rw [show M'.2.1 - M0.2.1 = M.2.1 - M0.2.1 + (M'.2.1 - M.2.1) by omega, show M'.2.2 - M0.2.2 = M.2.2 - M0.2.2 + (M'.2.2 - M.2.2) by omega]
    exact w3
theorem k_aastO2 (C : CallFix p m c cc nL s args gT own) (hE : gEnv D gcl (gtys cs) gz B dE s) {a : Nat} {r : Option Nat} {i : Int32} (hd : decode cc pc = .ok (.aastore, 1)) (ha : aQk (cs 5) M a) (hv : cOq 10 M r ∨ cOq 11 M r) (hi : vp_in i (aL M a)) (kk : GW p l e R s m args below meth c nL (gA B) Q (gR D gcl B (aPq (cs 5) M a i.toNatClampNeg r)) ((aPq (cs 5) M a i.toNatClampNeg r).2.1 - M0.2.1) ((aPq (cs 5) M a i.toNatClampNeg r).2.2 - M0.2.2) (pc + 1) lv st) : GW p l e R s m args below meth c nL (gA B) Q (gR D gcl B M) (M.2.1 - M0.2.1) (M.2.2 - M0.2.2) pc lv (va_rf r :: .int i :: .ref a :: st) := by
  rcases hv with h | h
  · exact k_aastO C hE (show gcl[10]? = some _ from rfl) kx_Fr_Ob hd ha h hi kk
  · exact k_aastO C hE (show gcl[11]? = some _ from rfl) kx_Th_Ob hd ha h hi kk
end CLq
