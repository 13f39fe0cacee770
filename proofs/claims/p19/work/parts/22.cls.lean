/-! the class: objects by their addresses; what a cell holds, read off the memory -/
def cO (M : gMem) (a : Nat) : List Value := match M.1 a with
  | some (_, .inr (_, fs)) => fs
  | _ => []
def vI (v : Option Value) : Int32 := match v with
  | some (.int x) => x
  | _ => 0
def vQ (v : Option Value) : Option Nat := match v with
  | some (.ref x) => some x
  | _ => none
def cI (M : gMem) (a k : Nat) : Int32 := vI (cO M a)[k]?
def cQ (M : gMem) (a k : Nat) : Option Nat := vQ (cO M a)[k]?
/-- the kinds of a class's fields: 0 int, 1 boolean, 2 a reference -/
def ckd (ci : Nat) : List Nat := ([[2, 2, 2, 2, 2, 2, 2], [2, 2, 2, 2, 0], [2], [2, 2, 2, 2, 0, 0, 0], [0, 0, 0, 0, 0, 0, 0, 0, 0, 0, 0], [0, 0, 0, 0], [2, 2, 2, 2, 2, 0, 0, 0], [2, 2, 0], [2, 2, 1, 1, 0, 0, 0, 0, 0, 0, 2, 0, 0, 1], [2, 2, 0, 0, 2], [2, 0, 0, 2, 2], [2, 0, 1, 1, 2, 2, 0], [0, 0, 0, 0, 0, 2, 2, 2, 2, 2, 2, 2, 2, 2, 2, 2, 2, 2, 2, 2, 2, 2, 2, 2, 2, 2, 2, 2, 2, 2, 2, 0, 0, 0, 0, 0, 0, 0, 0, 1, 2, 2, 2, 2, 0, 0, 0, 0, 0, 0, 0, 1, 0, 2, 2, 2, 0, 2, 2, 2, 2, 0, 0, 2, 2, 2, 2], [2, 0, 0]] : List (List Nat)).getD ci []
def cwt (ci : Nat) (fs : List Value) : Prop := fs.length = (ckd ci).length ∧ ∀ k, k < fs.length → ((ckd ci).getD k 0 = 2 → ∃ r : Option Nat, fs[k]? = some (va_rf r)) ∧ ((ckd ci).getD k 0 ≠ 2 → ∃ x : Int32, fs[k]? = some (.int x))
def cOk (ci : Nat) (M : gMem) (a : Nat) : Prop := ∃ fs, M.1 a = some (1, .inr (ci, fs)) ∧ cwt ci fs
def cOq (ci : Nat) (M : gMem) (r : Option Nat) : Prop := ∃ a, r = some a ∧ cOk ci M a
def cP (ci : Nat) (M : gMem) (a k : Nat) (v : Value) : gMem := gup M a (1, .inr (ci, (cO M a).set k v))
def aL (M : gMem) (a : Nat) : Nat := match M.1 a with
  | some (_, .inl (_, n, _)) => n
  | _ => 0
def aF (M : gMem) (a : Nat) : Nat → Int32 := match M.1 a with
  | some (_, .inl (_, _, .inl f)) => f
  | _ => fun _ => 0
def aQ (M : gMem) (a : Nat) : Nat → Option Nat := match M.1 a with
  | some (_, .inl (_, _, .inr (.inr (.inr (.inr f))))) => f
  | _ => fun _ => none
def aIk (cA : ClassId) (M : gMem) (a : Nat) : Prop := ∃ (n : Nat) (f : Nat → Int32), M.1 a = some (1, .inl (cA, n, .inl f))
def aQk (cA : ClassId) (M : gMem) (a : Nat) : Prop := ∃ (n : Nat) (f : Nat → Option Nat), M.1 a = some (1, .inl (cA, n, .inr (.inr (.inr (.inr f)))))
def aPi (cA : ClassId) (M : gMem) (a i : Nat) (x : Int32) : gMem := gup M a (1, .inl (cA, aL M a, .inl (upd (aF M a) i x)))
def aPq (cA : ClassId) (M : gMem) (a i : Nat) (r : Option Nat) : gMem := gup M a (1, .inl (cA, aL M a, .inr (.inr (.inr (.inr (va_up (aQ M a) i r))))))
theorem cO_of {M : gMem} {a r ci : Nat} {fs : List Value} (h : M.1 a = some (r, .inr (ci, fs))) : cO M a = fs := by simp [cO, h]
theorem cI_of {ci : Nat} {M : gMem} {a : Nat} {fs : List Value} (h : M.1 a = some (1, .inr (ci, fs))) (hw : cwt ci fs) {k : Nat} (hk : k < (ckd ci).length) (h2 : (ckd ci).getD k 0 ≠ 2) : fs[k]? = some (.int (cI M a k)) := by
  obtain ⟨x, hx⟩ := (hw.2 k (by rw [hw.1]; exact hk)).2 h2
  unfold cI
  rw [cO_of h, hx]
  rfl
theorem cQ_of {ci : Nat} {M : gMem} {a : Nat} {fs : List Value} (h : M.1 a = some (1, .inr (ci, fs))) (hw : cwt ci fs) {k : Nat} (hk : k < (ckd ci).length) (h2 : (ckd ci).getD k 0 = 2) : fs[k]? = some (va_rf (cQ M a k)) := by
  obtain ⟨r, hr⟩ := (hw.2 k (by rw [hw.1]; exact hk)).1 h2
  unfold cQ
  rw [cO_of h, hr]
  cases r <;> rfl
theorem nf_q (ty : FieldType) (hty : (∃ n, ty = .object n) ∨ ∃ t, ty = .array t) (r : Option Nat) : narrow ty (va_rf r) = va_rf r ∧ fits ty (va_rf r) = true := by
  rcases hty with ⟨n, rfl⟩ | ⟨t, rfl⟩ <;> cases r <;> exact ⟨rfl, rfl⟩
theorem nf_i (x : Int32) : narrow .int (.int x) = .int x ∧ fits .int (.int x) = true := ⟨rfl, rfl⟩
theorem nf_z {x : Int32} (h : x = 0 ∨ x = 1) : narrow .boolean (.int x) = .int x ∧ fits .boolean (.int x) = true := by
  rcases h with rfl | rfl <;> exact ⟨rfl, rfl⟩
section CLa
variable {p : Program} {l : Launch} {e : Env} {R : Room} {s : State} {m : MethodId} {args : Array Value} {below : List Frame} {meth : Method} {c : Code} {nL : Nat} {D : va_G} {B : Nat} {dE : Nat × Nat} {A : Nat → Prop} {Q : State → Prop} {M : gMem} {cells slots pc : Nat} {lv : List (Nat × Value)} {st : List Value} {cc : ByteArray} {Ts : List Cond} {own : String} {tys : List (ClassId × FieldType)} {P : Heap → Prop} {cs : Nat → ClassId}
theorem q_aload_n (C : CallFix p m c cc nL s args Ts own) {kk : Fin 4} {r : Option Nat} (hd : decode cc pc = .ok (.aload_n kk, 1)) (hl : lvg lv (kk : Nat) = some (va_rf r)) (k : GW p l e R s m args below meth c nL A Q P cells slots (pc + 1) lv (va_rf r :: st)) : GW p l e R s m args below meth c nL A Q P cells slots pc lv st := by
  cases r with
  | none => exact g_aload_nN C hd hl k
  | some x => exact g_aload_n C hd hl k
theorem q_aload (C : CallFix p m c cc nL s args Ts own) {i : Nat} {r : Option Nat} (hd : decode cc pc = .ok (.aload i, 2)) (hl : lvg lv i = some (va_rf r)) (k : GW p l e R s m args below meth c nL A Q P cells slots (pc + 2) lv (va_rf r :: st)) : GW p l e R s m args below meth c nL A Q P cells slots pc lv st := by
  cases r with
  | none => exact g_aloadN C hd hl k
  | some x => exact g_aload C hd hl k
theorem q_astore_n (C : CallFix p m c cc nL s args Ts own) {kk : Fin 4} {r : Option Nat} {lv' : List (Nat × Value)} (hd : decode cc pc = .ok (.astore_n kk, 1)) (hn : (kk : Nat) < nL) (hl : lvs lv (kk : Nat) (va_rf r) = lv') (k : GW p l e R s m args below meth c nL A Q P cells slots (pc + 1) lv' st) : GW p l e R s m args below meth c nL A Q P cells slots pc lv (va_rf r :: st) := by
  cases r with
  | none => exact g_astore_nN C hd hn hl k
  | some x => exact g_astore_n C hd hn hl k
theorem q_astore (C : CallFix p m c cc nL s args Ts own) {i : Nat} {r : Option Nat} {lv' : List (Nat × Value)} (hd : decode cc pc = .ok (.astore i, 2)) (hn : i < nL) (hl : lvs lv i (va_rf r) = lv') (k : GW p l e R s m args below meth c nL A Q P cells slots (pc + 2) lv' st) : GW p l e R s m args below meth c nL A Q P cells slots pc lv (va_rf r :: st) := by
  cases r with
  | none => exact g_astoreN C hd hn hl k
  | some x => exact g_astore C hd hn hl k
theorem q_ifnull (C : CallFix p m c cc nL s args Ts own) {r : Option Nat} {off : Int} (tgt : Nat) (hd : decode cc pc = .ok (.ifnull off, 3)) (ht : (pc : Int) + off = (tgt : Int)) (kt : r = none → GW p l e R s m args below meth c nL A Q P cells slots tgt lv st) (kf : ¬ r = none → GW p l e R s m args below meth c nL A Q P cells slots (pc + 3) lv st) : GW p l e R s m args below meth c nL A Q P cells slots pc lv (va_rf r :: st) := by
  cases r with
  | none => exact g_ifnullN C tgt hd ht (kt rfl)
  | some x => exact g_ifnull C hd (kf (by simp))
theorem q_ifnonnull (C : CallFix p m c cc nL s args Ts own) {r : Option Nat} {off : Int} (tgt : Nat) (hd : decode cc pc = .ok (.ifnonnull off, 3)) (ht : (pc : Int) + off = (tgt : Int)) (kt : ¬ r = none → GW p l e R s m args below meth c nL A Q P cells slots tgt lv st) (kf : r = none → GW p l e R s m args below meth c nL A Q P cells slots (pc + 3) lv st) : GW p l e R s m args below meth c nL A Q P cells slots pc lv (va_rf r :: st) := by
  cases r with
  | none => exact g_ifnonnullN C hd (kf rfl)
  | some x => exact g_ifnonnull C tgt hd ht (kt (by simp))
/-- a reference that is there, at each depth of the stack -/
theorem cOq.at {ci : Nat} {M : gMem} {r : Option Nat} (h : cOq ci M r) : r = some (r.getD 0) ∧ cOk ci M (r.getD 0) := by
  obtain ⟨a, rfl, h2⟩ := h
  exact ⟨rfl, h2⟩
theorem GW.known1 {r : Option Nat} {a : Nat}  (hr : r = some a) (k : GW p l e R s m args below meth c nL A Q P cells slots pc lv (.ref a :: st)) : GW p l e R s m args below meth c nL A Q P cells slots pc lv (va_rf r :: st) := by
  subst hr
  exact k
theorem GW.known2 {r : Option Nat} {a : Nat} {v : Value} (hr : r = some a) (k : GW p l e R s m args below meth c nL A Q P cells slots pc lv (v :: .ref a :: st)) : GW p l e R s m args below meth c nL A Q P cells slots pc lv (v :: va_rf r :: st) := by
  subst hr
  exact k
theorem GW.known3 {r : Option Nat} {a : Nat} {v v2 : Value} (hr : r = some a) (k : GW p l e R s m args below meth c nL A Q P cells slots pc lv (v :: v2 :: .ref a :: st)) : GW p l e R s m args below meth c nL A Q P cells slots pc lv (v :: v2 :: va_rf r :: st) := by
  subst hr
  exact k
theorem GW.known4 {r : Option Nat} {a : Nat} {v v2 v3 : Value} (hr : r = some a) (k : GW p l e R s m args below meth c nL A Q P cells slots pc lv (v :: v2 :: v3 :: .ref a :: st)) : GW p l e R s m args below meth c nL A Q P cells slots pc lv (v :: v2 :: v3 :: va_rf r :: st) := by
  subst hr
  exact k
theorem GW.known5 {r : Option Nat} {a : Nat} {v v2 v3 v4 : Value} (hr : r = some a) (k : GW p l e R s m args below meth c nL A Q P cells slots pc lv (v :: v2 :: v3 :: v4 :: .ref a :: st)) : GW p l e R s m args below meth c nL A Q P cells slots pc lv (v :: v2 :: v3 :: v4 :: va_rf r :: st) := by
  subst hr
  exact k
theorem GW.known6 {r : Option Nat} {a : Nat} {v v2 v3 v4 v5 : Value} (hr : r = some a) (k : GW p l e R s m args below meth c nL A Q P cells slots pc lv (v :: v2 :: v3 :: v4 :: v5 :: .ref a :: st)) : GW p l e R s m args below meth c nL A Q P cells slots pc lv (v :: v2 :: v3 :: v4 :: v5 :: va_rf r :: st) := by
  subst hr
  exact k
theorem c_geti (C : CallFix p m c cc nL s args gT own) (hK : va_K D gcl tys s) {ci index a N : Nat} {Cn : String} {T : u_T} (hin : ∀ w ∈ u_ws Cn T N, w ∈ gT) (hc : gcl[ci]? = some (Cn, T, N)) (k : Nat) (hk : k < N) (hk2 : k < (ckd ci).length) (h2 : (ckd ci).getD k 0 ≠ 2) (hlink : Cond.fieldLink own index (T k).1 (T k).2.1 (T k).2.2.1 ∈ gT) (hd : decode cc pc = .ok (.getfield index, 3)) (ha : cOk ci M a) (kk : GW p l e R s m args below meth c nL A Q (gR D gcl B M) cells slots (pc + 3) lv (.int (cI M a k) :: st)) : GW p l e R s m args below meth c nL A Q (gR D gcl B M) cells slots pc lv (.ref a :: st) := by
  obtain ⟨fs, h1, h3⟩ := ha
  exact g_get C hK hin hc k hk hlink hd h1 (cI_of h1 h3 hk2 h2) kk
theorem c_getq (C : CallFix p m c cc nL s args gT own) (hK : va_K D gcl tys s) {ci index a N : Nat} {Cn : String} {T : u_T} (hin : ∀ w ∈ u_ws Cn T N, w ∈ gT) (hc : gcl[ci]? = some (Cn, T, N)) (k : Nat) (hk : k < N) (hk2 : k < (ckd ci).length) (h2 : (ckd ci).getD k 0 = 2) (hlink : Cond.fieldLink own index (T k).1 (T k).2.1 (T k).2.2.1 ∈ gT) (hd : decode cc pc = .ok (.getfield index, 3)) (ha : cOk ci M a) (kk : GW p l e R s m args below meth c nL A Q (gR D gcl B M) cells slots (pc + 3) lv (va_rf (cQ M a k) :: st)) : GW p l e R s m args below meth c nL A Q (gR D gcl B M) cells slots pc lv (.ref a :: st) := by
  obtain ⟨fs, h1, h3⟩ := ha
  exact g_get C hK hin hc k hk hlink hd h1 (cQ_of h1 h3 hk2 h2) kk
theorem c_getiN (C : CallFix p m c cc nL s args gT own) (hK : va_K D gcl tys s) {ci index a N : Nat} {Cn : String} {T : u_T} (hin : ∀ w ∈ u_ws Cn T N, w ∈ gT) (hc : gcl[ci]? = some (Cn, T, N)) (k : Nat) (hk : k < N) (hk2 : k < (ckd ci).length) (h2 : (ckd ci).getD k 0 ≠ 2) {host : String} (hlink : va_Nw (.fieldLinkNest own index (T k).1 (T k).2.1 (T k).2.2.1 host) s) (hd : decode cc pc = .ok (.getfield index, 3)) (ha : cOk ci M a) (kk : GW p l e R s m args below meth c nL A Q (gR D gcl B M) cells slots (pc + 3) lv (.int (cI M a k) :: st)) : GW p l e R s m args below meth c nL A Q (gR D gcl B M) cells slots pc lv (.ref a :: st) := by
  obtain ⟨fs, h1, h3⟩ := ha
  exact g_getN C hK hin hc k hk hlink hd h1 (cI_of h1 h3 hk2 h2) kk
theorem c_getqN (C : CallFix p m c cc nL s args gT own) (hK : va_K D gcl tys s) {ci index a N : Nat} {Cn : String} {T : u_T} (hin : ∀ w ∈ u_ws Cn T N, w ∈ gT) (hc : gcl[ci]? = some (Cn, T, N)) (k : Nat) (hk : k < N) (hk2 : k < (ckd ci).length) (h2 : (ckd ci).getD k 0 = 2) {host : String} (hlink : va_Nw (.fieldLinkNest own index (T k).1 (T k).2.1 (T k).2.2.1 host) s) (hd : decode cc pc = .ok (.getfield index, 3)) (ha : cOk ci M a) (kk : GW p l e R s m args below meth c nL A Q (gR D gcl B M) cells slots (pc + 3) lv (va_rf (cQ M a k) :: st)) : GW p l e R s m args below meth c nL A Q (gR D gcl B M) cells slots pc lv (.ref a :: st) := by
  obtain ⟨fs, h1, h3⟩ := ha
  exact g_getN C hK hin hc k hk hlink hd h1 (cQ_of h1 h3 hk2 h2) kk
theorem c_put (C : CallFix p m c cc nL s args gT own) (hK : va_K D gcl tys s) {ci index a N : Nat} {v : Value} {Cn : String} {T : u_T} (hin : ∀ w ∈ u_ws Cn T N, w ∈ gT) (hc : gcl[ci]? = some (Cn, T, N)) (k : Nat) (hk : k < N) (hk2 : k < (ckd ci).length) (hlink : Cond.fieldLink own index (T k).1 (T k).2.1 (T k).2.2.1 ∈ gT) (ty0 : Nat → FieldType) (hty : ∀ k, k < N → parseFieldDescriptor (T k).2.2.1 = some (ty0 k)) (hnm : ∀ a, a < N → ∀ b, b < N → a ≠ b → (T a).2.1 ≠ (T b).2.1) (hfin : (T k).2.2.2 = false) (hnf : narrow (ty0 k) v = v ∧ fits (ty0 k) v = true) (hd : decode cc pc = .ok (.putfield index, 3)) (ha : cOk ci M a) (kk : GW p l e R s m args below meth c nL (gA B) Q (gR D gcl B (cP ci M a k v)) cells slots (pc + 3) lv st) : GW p l e R s m args below meth c nL (gA B) Q (gR D gcl B M) cells slots pc lv (v :: .ref a :: st) := by
  obtain ⟨fs, h1, h3⟩ := ha
  refine g_put C hK hin hc k hk hlink ty0 hty hnm hfin hnf.1 hnf.2 hd h1 (by rw [h3.1]; exact hk2) ?_
  unfold cP at kk
  rw [cO_of h1] at kk
  exact kk
theorem c_putN (C : CallFix p m c cc nL s args gT own) (hK : va_K D gcl tys s) {ci index a N : Nat} {v : Value} {Cn : String} {T : u_T} (hin : ∀ w ∈ u_ws Cn T N, w ∈ gT) (hc : gcl[ci]? = some (Cn, T, N)) (k : Nat) (hk : k < N) (hk2 : k < (ckd ci).length) {host : String} (hlink : va_Nw (.fieldLinkNest own index (T k).1 (T k).2.1 (T k).2.2.1 host) s) (ty0 : Nat → FieldType) (hty : ∀ k, k < N → parseFieldDescriptor (T k).2.2.1 = some (ty0 k)) (hnm : ∀ a, a < N → ∀ b, b < N → a ≠ b → (T a).2.1 ≠ (T b).2.1) (hfin : (T k).2.2.2 = false) (hnf : narrow (ty0 k) v = v ∧ fits (ty0 k) v = true) (hd : decode cc pc = .ok (.putfield index, 3)) (ha : cOk ci M a) (kk : GW p l e R s m args below meth c nL (gA B) Q (gR D gcl B (cP ci M a k v)) cells slots (pc + 3) lv st) : GW p l e R s m args below meth c nL (gA B) Q (gR D gcl B M) cells slots pc lv (v :: .ref a :: st) := by
  obtain ⟨fs, h1, h3⟩ := ha
  refine g_putN C hK hin hc k hk hlink ty0 hty hnm hfin hnf.1 hnf.2 hd h1 (by rw [h3.1]; exact hk2) ?_
  unfold cP at kk
  rw [cO_of h1] at kk
  exact kk
theorem c_putF (C : CallFix p m c cc nL s args gT own) (hK : va_K D gcl tys s) {ci index a N : Nat} {v : Value} {Cn : String} {T : u_T} (hin : ∀ w ∈ u_ws Cn T N, w ∈ gT) (hc : gcl[ci]? = some (Cn, T, N)) (k : Nat) (hk : k < N) (hk2 : k < (ckd ci).length) (hlink : Cond.fieldLink own index (T k).1 (T k).2.1 (T k).2.2.1 ∈ gT) (ty0 : Nat → FieldType) (hty : ∀ k, k < N → parseFieldDescriptor (T k).2.2.1 = some (ty0 k)) (hnm : ∀ a, a < N → ∀ b, b < N → a ≠ b → (T a).2.1 ≠ (T b).2.1) (hfin : (T k).2.2.2 = true) (hin2 : meth.name = "<init>") (hdecl : (T k).1 = own) (hnf : narrow (ty0 k) v = v ∧ fits (ty0 k) v = true) (hd : decode cc pc = .ok (.putfield index, 3)) (ha : cOk ci M a) (kk : GW p l e R s m args below meth c nL (gA B) Q (gR D gcl B (cP ci M a k v)) cells slots (pc + 3) lv st) : GW p l e R s m args below meth c nL (gA B) Q (gR D gcl B M) cells slots pc lv (v :: .ref a :: st) := by
  obtain ⟨fs, h1, h3⟩ := ha
  refine g_putF C hK hin hc k hk hlink ty0 hty hnm hfin hin2 hdecl hnf.1 hnf.2 hd h1 (by rw [h3.1]; exact hk2) ?_
  unfold cP at kk
  rw [cO_of h1] at kk
  exact kk
theorem c_alen (C : CallFix p m c cc nL s args gT own) (hK : va_K D gcl (gtys cs) s) {a : Nat} (t0 : Nat) {ty : FieldType} (ht : (gtys cs)[t0]? = some (cs t0, ty)) (hd : decode cc pc = .ok (.arraylength, 1)) (ha : ∃ x, M.1 a = some (1, .inl (cs t0, x))) (kk : GW p l e R s m args below meth c nL A Q (gR D gcl B M) cells slots (pc + 1) lv (.int (nI (aL M a)) :: st)) : GW p l e R s m args below meth c nL A Q (gR D gcl B M) cells slots pc lv (.ref a :: st) := by
  obtain ⟨x, h1⟩ := ha
  refine g_alen C hK ht hd h1 (v := nI (aL M a)) ?_ kk
  unfold aL
  rw [h1]
  rfl
theorem c_iald (C : CallFix p m c cc nL s args gT own) (hK : va_K D gcl (gtys cs) s) {a : Nat} {i : Int32} (hd : decode cc pc = .ok (.iaload, 1)) (ha : aIk (cs 0) M a) (hi : vp_in i (aL M a)) (kk : GW p l e R s m args below meth c nL A Q (gR D gcl B M) cells slots (pc + 1) lv (.int (aF M a i.toNatClampNeg) :: st)) : GW p l e R s m args below meth c nL A Q (gR D gcl B M) cells slots pc lv (.int i :: .ref a :: st) := by
  obtain ⟨n, f, h1⟩ := ha
  have e1 : aL M a = n := by unfold aL; rw [h1]
  have e2 : aF M a = f := by unfold aF; rw [h1]
  rw [e1] at hi
  rw [e2] at kk
  exact g_iald C hK (t0 := 0) rfl hd h1 hi kk
theorem c_iast (C : CallFix p m c cc nL s args gT own) (hK : va_K D gcl (gtys cs) s) {a : Nat} {i x : Int32} (hd : decode cc pc = .ok (.iastore, 1)) (ha : aIk (cs 0) M a) (hi : vp_in i (aL M a)) (kk : GW p l e R s m args below meth c nL (gA B) Q (gR D gcl B (aPi (cs 0) M a i.toNatClampNeg x)) cells slots (pc + 1) lv st) : GW p l e R s m args below meth c nL (gA B) Q (gR D gcl B M) cells slots pc lv (.int x :: .int i :: .ref a :: st) := by
  obtain ⟨n, f, h1⟩ := ha
  have e1 : aL M a = n := by unfold aL; rw [h1]
  have e2 : aF M a = f := by unfold aF; rw [h1]
  unfold aPi at kk
  rw [e1] at hi kk
  rw [e2] at kk
  exact g_iast C hK (t0 := 0) rfl hd h1 hi kk
theorem c_aald (C : CallFix p m c cc nL s args gT own) (hK : va_K D gcl (gtys cs) s) (t0 : Nat) {Cn : String} (ht : (gtys cs)[t0]? = some (cs t0, .object Cn)) {a : Nat} {i : Int32} (hd : decode cc pc = .ok (.aaload, 1)) (ha : aQk (cs t0) M a) (hi : vp_in i (aL M a)) (kk : GW p l e R s m args below meth c nL A Q (gR D gcl B M) cells slots (pc + 1) lv (va_rf (aQ M a i.toNatClampNeg) :: st)) : GW p l e R s m args below meth c nL A Q (gR D gcl B M) cells slots pc lv (.int i :: .ref a :: st) := by
  obtain ⟨n, f, h1⟩ := ha
  have e1 : aL M a = n := by unfold aL; rw [h1]
  have e2 : aQ M a = f := by unfold aQ; rw [h1]
  rw [e1] at hi
  rw [e2] at kk
  exact g_aald C hK ht hd h1 hi kk
theorem c_aast (C : CallFix p m c cc nL s args gT own) (hK : va_K D gcl (gtys cs) s) (t0 : Nat) {ci : Nat} {rc : vw_C} (ht : (gtys cs)[t0]? = some (cs t0, .object rc.1)) (hc : gcl[ci]? = some rc) {a : Nat} {r : Option Nat} {i : Int32} (hd : decode cc pc = .ok (.aastore, 1)) (ha : aQk (cs t0) M a) (hv : r = none ∨ cOq ci M r) (hi : vp_in i (aL M a)) (kk : GW p l e R s m args below meth c nL (gA B) Q (gR D gcl B (aPq (cs t0) M a i.toNatClampNeg r)) cells slots (pc + 1) lv st) : GW p l e R s m args below meth c nL (gA B) Q (gR D gcl B M) cells slots pc lv (va_rf r :: .int i :: .ref a :: st) := by
  obtain ⟨n, f, h1⟩ := ha
  have e1 : aL M a = n := by unfold aL; rw [h1]
  have e2 : aQ M a = f := by unfold aQ; rw [h1]
  unfold aPq at kk
  rw [e1] at hi kk
  rw [e2] at kk
  rcases hv with rfl | ⟨v, rfl, fs, h2, -⟩
  · exact g_aastN C hK ht hd h1 hi kk
  · exact g_aast C hK ht hc hd h1 h2 hi kk
end CLa
/-- how much the memory has grown since M0, and that it stays under the limit -/
def cLe (lim : Nat × Nat) (M0 M : gMem) : Prop := M0.2.1 ≤ M.2.1 ∧ M.2.1 ≤ lim.1 ∧ M0.2.2 ≤ M.2.2 ∧ M.2.2 ≤ lim.2
/-- a method of the class: how it ends, and the memory behind it -/
def cMet (l : Launch) (y : MethodName) (cw : Cond) (fr lo : Nat) (D : va_G) (cs : Nat → ClassId) (B : Nat) (dE : Nat × Nat) (A : Nat → Prop) (lim : Nat × Nat) (av : List Value) (M : gMem) (Post : gOut → gMem → Prop) : Prop :=
  (M.2.1 ≤ lim.1 ∧ M.2.2 ≤ lim.2) → gMet l y (cw :: gT) { frames := fr, cells := lim.1 - M.2.1, slots := lim.2 - M.2.2, locals := lo } D gcl (gtys cs) gz B dE A M av (fun x M' k n => k = M'.2.1 - M.2.1 ∧ n = M'.2.2 - M.2.2 ∧ cLe lim M M' ∧ Post x M')
abbrev cQ0 (below : List Frame) (D : va_G) (B : Nat) (A : Nat → Prop) (lim : Nat × Nat) (M0 : gMem) (K : gOut → gMem → Prop) (args : Array Value) (s : State) : State → Prop := MQX below (gQ D gcl B A (fun x M' k n => k = M'.2.1 - M0.2.1 ∧ n = M'.2.2 - M0.2.2 ∧ cLe lim M0 M' ∧ K x M')) args s A
