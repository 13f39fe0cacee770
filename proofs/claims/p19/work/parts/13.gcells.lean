/-! gkit, part c: rows that read and write cells -/
theorem gR.p1 {D : va_G} {cl : List vw_C} {B : Nat} {M : gMem} {H : Heap} (h : gR D cl B M H) {a : Nat} {x : Nat × va_E} (ha : M.1 a = some x) : va_P D cl [(a, x.2)] H := fun j q hj => by
  match j, hj with
  | 0, hj => cases hj; exact (h.2 a x ha).2
  | j + 1, hj => simp at hj
section GC
variable {p : Program} {l : Launch} {e : Env} {R : Room} {s : State} {m : MethodId} {args : Array Value} {below : List Frame} {meth : Method} {c : Code} {nL : Nat} {D : va_G} {cl : List vw_C} {B : Nat} {A : Nat → Prop} {Q : State → Prop} {M : gMem} {cells slots pc : Nat} {lv : List (Nat × Value)} {st : List Value} {cc : ByteArray} {Ts : List Cond} {own : String} {tys : List (ClassId × FieldType)}
theorem g_get (C : CallFix p m c cc nL s args Ts own) (hK : va_K D cl tys s) {ci index r a N : Nat} {Cn : String} {T : u_T} {fs : List Value} {v : Value} (hin : ∀ w ∈ u_ws Cn T N, w ∈ Ts) (hc : cl[ci]? = some (Cn, T, N)) (k : Nat) (hk : k < N) (hlink : Cond.fieldLink own index (T k).1 (T k).2.1 (T k).2.2.1 ∈ Ts) (hd : decode cc pc = .ok (.getfield index, 3)) (ha : M.1 a = some (r, .inr (ci, fs))) (hv : fs[k]? = some v) (kk : GW p l e R s m args below meth c nL A Q (gR D cl B M) cells slots (pc + 3) lv (v :: st)) : GW p l e R s m args below meth c nL A Q (gR D cl B M) cells slots pc lv (.ref a :: st) := fun H locs ls hR hS hl =>
  va_get (D := D) (cl := cl) (ws := [(a, .inr (ci, fs))]) C.1 C.2.1 C.2.2.2.2 hin C.2.2.2.1 hK (hR.p1 ha) 0 rfl hc k hk (C.2.2.2.2 _ hlink) (fun _ h => h) hv hd (kk H locs ls hR hS hl)
theorem g_getN (C : CallFix p m c cc nL s args Ts own) (hK : va_K D cl tys s) {ci index r a N : Nat} {Cn : String} {T : u_T} {fs : List Value} {v : Value} (hin : ∀ w ∈ u_ws Cn T N, w ∈ Ts) (hc : cl[ci]? = some (Cn, T, N)) (k : Nat) (hk : k < N) {host : String} (hlink : va_Nw (.fieldLinkNest own index (T k).1 (T k).2.1 (T k).2.2.1 host) s) (hd : decode cc pc = .ok (.getfield index, 3)) (ha : M.1 a = some (r, .inr (ci, fs))) (hv : fs[k]? = some v) (kk : GW p l e R s m args below meth c nL A Q (gR D cl B M) cells slots (pc + 3) lv (v :: st)) : GW p l e R s m args below meth c nL A Q (gR D cl B M) cells slots pc lv (.ref a :: st) := fun H locs ls hR hS hl =>
  va_getN (D := D) (cl := cl) (ws := [(a, .inr (ci, fs))]) C.1 C.2.1 C.2.2.2.2 hin C.2.2.2.1 hK (hR.p1 ha) 0 rfl hc k hk (va_Nw.use rfl hlink) (fun _ h => h) hv hd (kk H locs ls hR hS hl)
theorem g_put (C : CallFix p m c cc nL s args Ts own) (hK : va_K D cl tys s) {ci index r a N : Nat} {Cn : String} {T : u_T} {fs : List Value} {v : Value} (hin : ∀ w ∈ u_ws Cn T N, w ∈ Ts) (hc : cl[ci]? = some (Cn, T, N)) (k : Nat) (hk : k < N) (hlink : Cond.fieldLink own index (T k).1 (T k).2.1 (T k).2.2.1 ∈ Ts) (ty0 : Nat → FieldType) (hty : ∀ k, k < N → parseFieldDescriptor (T k).2.2.1 = some (ty0 k)) (hnm : ∀ a, a < N → ∀ b, b < N → a ≠ b → (T a).2.1 ≠ (T b).2.1) (hfin : (T k).2.2.2 = false) (hn : narrow (ty0 k) v = v) (hfit : fits (ty0 k) v = true) (hd : decode cc pc = .ok (.putfield index, 3)) (ha : M.1 a = some (r, .inr (ci, fs))) (hl0 : k < fs.length) (kk : GW p l e R s m args below meth c nL (gA B) Q (gR D cl B (gup M a (r, .inr (ci, fs.set k v)))) cells slots (pc + 3) lv st) : GW p l e R s m args below meth c nL (gA B) Q (gR D cl B M) cells slots pc lv (v :: .ref a :: st) := fun H locs ls hR hS hl => by
  have hap := va_apart (own := own) C.2.2.2.2 hin ty0 hty hnm hK hc
  obtain ⟨r0, h1, cell, q1, q2, q3, q4⟩ := (hR.2 a _ ha).2
  have hr0 : r0 = (Cn, T, N) := Option.some.inj (h1.symm.trans hc)
  subst hr0
  obtain ⟨hSl, hfc, kC, hkC, hkind⟩ := hK.1 ci _ hc
  obtain ⟨cf, kf, fi, f, hi, hsl⟩ := hSl k hk
  have hlay := C.2.2.2.2 _ (hin _ (u_in_lay hk))
  unfold u_lay at hlay
  rw [if_neg (by rw [hfin]; decide)] at hlay
  have hst := (u_facts hfc hkC (u_lays C.2.2.2.2 hin hk) hi).1
  have h6 := u_store hfc hkC hkind hlay hi (hty k hk) hn hfit
  refine W.putK C.1 C.2.1 (f := f) ⟨C.2.2.2.1, C.2.2.2.2 _ hlink, ⟨_, _, _, hi⟩, hst⟩ (by rw [q2]; exact h6) q1 q3 (by rw [hsl]; exact k2_hasslot (q4 k hk)) rfl rfl hd fun H' e1 e2 e3 => ?_
  rw [hsl] at e1 ⊢
  exact kk H' _ ls (hR.put1 ha ⟨_, hc, t_OB.to (V := updV (vp_V fs) k v) ⟨_, e1, q2, q3, t_set q4 hap hk v⟩ (fun j _ => vp_updV_set hl0 v j)⟩ e2 e3) (hS.put e2 e3 (hR.2 a _ ha).1) hl
theorem g_putN (C : CallFix p m c cc nL s args Ts own) (hK : va_K D cl tys s) {ci index r a N : Nat} {Cn : String} {T : u_T} {fs : List Value} {v : Value} (hin : ∀ w ∈ u_ws Cn T N, w ∈ Ts) (hc : cl[ci]? = some (Cn, T, N)) (k : Nat) (hk : k < N) {host : String} (hlink : va_Nw (.fieldLinkNest own index (T k).1 (T k).2.1 (T k).2.2.1 host) s) (ty0 : Nat → FieldType) (hty : ∀ k, k < N → parseFieldDescriptor (T k).2.2.1 = some (ty0 k)) (hnm : ∀ a, a < N → ∀ b, b < N → a ≠ b → (T a).2.1 ≠ (T b).2.1) (hfin : (T k).2.2.2 = false) (hn : narrow (ty0 k) v = v) (hfit : fits (ty0 k) v = true) (hd : decode cc pc = .ok (.putfield index, 3)) (ha : M.1 a = some (r, .inr (ci, fs))) (hl0 : k < fs.length) (kk : GW p l e R s m args below meth c nL (gA B) Q (gR D cl B (gup M a (r, .inr (ci, fs.set k v)))) cells slots (pc + 3) lv st) : GW p l e R s m args below meth c nL (gA B) Q (gR D cl B M) cells slots pc lv (v :: .ref a :: st) := fun H locs ls hR hS hl => by
  have hap := va_apart (own := own) C.2.2.2.2 hin ty0 hty hnm hK hc
  obtain ⟨r0, h1, cell, q1, q2, q3, q4⟩ := (hR.2 a _ ha).2
  have hr0 : r0 = (Cn, T, N) := Option.some.inj (h1.symm.trans hc)
  subst hr0
  obtain ⟨hSl, hfc, kC, hkC, hkind⟩ := hK.1 ci _ hc
  obtain ⟨cf, kf, fi, f, hi, hsl⟩ := hSl k hk
  have hlay := C.2.2.2.2 _ (hin _ (u_in_lay hk))
  unfold u_lay at hlay
  rw [if_neg (by rw [hfin]; decide)] at hlay
  have hst := (u_facts hfc hkC (u_lays C.2.2.2.2 hin hk) hi).1
  have h6 := u_store hfc hkC hkind hlay hi (hty k hk) hn hfit
  refine va_WputK C.1 C.2.1 (f := f) C.2.2.2.1 (va_Nw.use rfl hlink) hi hst (by rw [q2]; exact h6) q1 q3 (by rw [hsl]; exact k2_hasslot (q4 k hk)) rfl rfl hd fun H' e1 e2 e3 => ?_
  rw [hsl] at e1 ⊢
  exact kk H' _ ls (hR.put1 ha ⟨_, hc, t_OB.to (V := updV (vp_V fs) k v) ⟨_, e1, q2, q3, t_set q4 hap hk v⟩ (fun j _ => vp_updV_set hl0 v j)⟩ e2 e3) (hS.put e2 e3 (hR.2 a _ ha).1) hl
theorem g_putF (C : CallFix p m c cc nL s args Ts own) (hK : va_K D cl tys s) {ci index r a N : Nat} {Cn : String} {T : u_T} {fs : List Value} {v : Value} (hin : ∀ w ∈ u_ws Cn T N, w ∈ Ts) (hc : cl[ci]? = some (Cn, T, N)) (k : Nat) (hk : k < N) (hlink : Cond.fieldLink own index (T k).1 (T k).2.1 (T k).2.2.1 ∈ Ts) (ty0 : Nat → FieldType) (hty : ∀ k, k < N → parseFieldDescriptor (T k).2.2.1 = some (ty0 k)) (hnm : ∀ a, a < N → ∀ b, b < N → a ≠ b → (T a).2.1 ≠ (T b).2.1) (hfin : (T k).2.2.2 = true) (hin2 : meth.name = "<init>") (hdecl : (T k).1 = own) (hn : narrow (ty0 k) v = v) (hfit : fits (ty0 k) v = true) (hd : decode cc pc = .ok (.putfield index, 3)) (ha : M.1 a = some (r, .inr (ci, fs))) (hl0 : k < fs.length) (kk : GW p l e R s m args below meth c nL (gA B) Q (gR D cl B (gup M a (r, .inr (ci, fs.set k v)))) cells slots (pc + 3) lv st) : GW p l e R s m args below meth c nL (gA B) Q (gR D cl B M) cells slots pc lv (v :: .ref a :: st) := fun H locs ls hR hS hl => by
  have hap := va_apart (own := own) C.2.2.2.2 hin ty0 hty hnm hK hc
  obtain ⟨r0, h1, cell, q1, q2, q3, q4⟩ := (hR.2 a _ ha).2
  have hr0 : r0 = (Cn, T, N) := Option.some.inj (h1.symm.trans hc)
  subst hr0
  obtain ⟨hSl, hfc, kC, hkC, hkind⟩ := hK.1 ci _ hc
  obtain ⟨cf, kf, fi, f, hi, hsl⟩ := hSl k hk
  have hlay := C.2.2.2.2 _ (hin _ (u_in_lay hk))
  unfold u_lay at hlay
  rw [if_pos hfin] at hlay
  have hst := (u_facts hfc hkC (u_lays C.2.2.2.2 hin hk) hi).1
  have hcf : m.cls = cf := by
    obtain ⟨_, _, c', _, _, _, -, -, hf', -, -, -, hown2, -⟩ := Cond.laysFinal_spec hlay
    have e1 : c' = cf := by have := hi.symm.trans hf'; simp at this; exact this.1.symm
    rw [hdecl] at hown2
    rw [← e1]; exact Option.some.inj (C.2.2.2.1.symm.trans hown2)
  have h6 := u_fits hfc hkC hkind (Or.inr hlay) hi (hty k hk) hn hfit
  refine W.putFinK C.1 C.2.1 C.2.2.2.1 (C.2.2.2.2 _ hlink) hi hst hcf hin2 (by rw [q2]; exact h6) q1 q3 (by rw [hsl]; exact k2_hasslot (q4 k hk)) rfl rfl hd fun H' e1 e2 e3 => ?_
  rw [hsl] at e1 ⊢
  exact kk H' _ ls (hR.put1 ha ⟨_, hc, t_OB.to (V := updV (vp_V fs) k v) ⟨_, e1, q2, q3, t_set q4 hap hk v⟩ (fun j _ => vp_updV_set hl0 v j)⟩ e2 e3) (hS.put e2 e3 (hR.2 a _ ha).1) hl
theorem g_iald (C : CallFix p m c cc nL s args Ts own) (hK : va_K D cl tys s) {r a n t0 : Nat} {cA : ClassId} {f : Nat → Int32} {i : Int32} (ht : tys[t0]? = some (cA, .int)) (hd : decode cc pc = .ok (.iaload, 1)) (ha : M.1 a = some (r, .inl (cA, n, .inl f))) (hi : vp_in i n) (kk : GW p l e R s m args below meth c nL A Q (gR D cl B M) cells slots (pc + 1) lv (.int (f i.toNatClampNeg) :: st)) : GW p l e R s m args below meth c nL A Q (gR D cl B M) cells slots pc lv (.int i :: .ref a :: st) := fun H locs ls hR hS hl =>
  va_iald (D := D) (cl := cl) (ws := [(a, .inl (cA, n, .inl f))]) C.1 C.2.1 hK (hR.p1 ha) 0 t0 rfl ht hi hd (kk H locs ls hR hS hl)
theorem g_iast (C : CallFix p m c cc nL s args Ts own) (hK : va_K D cl tys s) {r a n t0 : Nat} {cA : ClassId} {f : Nat → Int32} {i : Int32} {x : Int32} (ht : tys[t0]? = some (cA, .int)) (hd : decode cc pc = .ok (.iastore, 1)) (ha : M.1 a = some (r, .inl (cA, n, .inl f))) (hi : vp_in i n) (kk : GW p l e R s m args below meth c nL (gA B) Q (gR D cl B (gup M a (r, .inl (cA, n, .inl (upd f i.toNatClampNeg x))))) cells slots (pc + 1) lv st) : GW p l e R s m args below meth c nL (gA B) Q (gR D cl B M) cells slots pc lv (.int x :: .int i :: .ref a :: st) := fun H locs ls hR hS hl => by
  refine W.iast C.1 C.2.1 (hR.2 a _ ha).2 ((hK.2 t0 _ ht).1 n (fun j => .int (f j))) (fun q => by cases q) (by show ¬ (i < 0 ∨ (arrV _ _ _).slots.size ≤ _); rw [arrV_size]; exact hi) rfl rfl hd fun H1 e1 z oq => ?_
  refine kk H1 _ ls (hR.put1 ha ?_ z oq) (hS.put z oq (hR.2 a _ ha).1) hl
  show H1[a]? = some (vp_cell _ _)
  rw [e1]
  rw [vp_cell_i, vp_cell_i, arrV_store]
  congr 2
  funext q
  by_cases hq : q = i.toNatClampNeg
  · subst hq
    simp [updV, upd]
    try rfl
  · simp [updV, upd, hq]
theorem g_lald (C : CallFix p m c cc nL s args Ts own) (hK : va_K D cl tys s) {r a n t0 : Nat} {cA : ClassId} {f : Nat → Int64} {i : Int32} (ht : tys[t0]? = some (cA, .long)) (hd : decode cc pc = .ok (.laload, 1)) (ha : M.1 a = some (r, .inl (cA, n, .inr (.inl f)))) (hi : vp_in i n) (kk : GW p l e R s m args below meth c nL A Q (gR D cl B M) cells slots (pc + 1) lv (.long (f i.toNatClampNeg) :: st)) : GW p l e R s m args below meth c nL A Q (gR D cl B M) cells slots pc lv (.int i :: .ref a :: st) := fun H locs ls hR hS hl =>
  va_lald (D := D) (cl := cl) (ws := [(a, .inl (cA, n, .inr (.inl f)))]) C.1 C.2.1 hK (hR.p1 ha) 0 t0 rfl ht hi hd (kk H locs ls hR hS hl)
theorem g_last (C : CallFix p m c cc nL s args Ts own) (hK : va_K D cl tys s) {r a n t0 : Nat} {cA : ClassId} {f : Nat → Int64} {i : Int32} {x : Int64} (ht : tys[t0]? = some (cA, .long)) (hd : decode cc pc = .ok (.lastore, 1)) (ha : M.1 a = some (r, .inl (cA, n, .inr (.inl f)))) (hi : vp_in i n) (kk : GW p l e R s m args below meth c nL (gA B) Q (gR D cl B (gup M a (r, .inl (cA, n, .inr (.inl (vp_updL f i.toNatClampNeg x)))))) cells slots (pc + 1) lv st) : GW p l e R s m args below meth c nL (gA B) Q (gR D cl B M) cells slots pc lv (.long x :: .int i :: .ref a :: st) := fun H locs ls hR hS hl => by
  refine W.last C.1 C.2.1 (hR.2 a _ ha).2 ((hK.2 t0 _ ht).1 n (fun j => .long (f j))) (fun q => by cases q) (by show ¬ (i < 0 ∨ (arrV _ _ _).slots.size ≤ _); rw [arrV_size]; exact hi) rfl rfl hd fun H1 e1 z oq => ?_
  refine kk H1 _ ls (hR.put1 ha ?_ z oq) (hS.put z oq (hR.2 a _ ha).1) hl
  show H1[a]? = some (vp_cell _ _)
  rw [e1]
  rw [vp_cell_l, vp_cell_l, arrV_store]
  congr 2
  funext q
  by_cases hq : q = i.toNatClampNeg
  · subst hq
    simp [updV, vp_updL]
    try rfl
  · simp [updV, vp_updL, hq]
theorem g_zald (C : CallFix p m c cc nL s args Ts own) (hK : va_K D cl tys s) {r a n t0 : Nat} {cA : ClassId} {f : Nat → Int32} {i : Int32} (ht : tys[t0]? = some (cA, .boolean)) (hd : decode cc pc = .ok (.baload, 1)) (ha : M.1 a = some (r, .inl (cA, n, .inl f))) (hi : vp_in i n) (kk : GW p l e R s m args below meth c nL A Q (gR D cl B M) cells slots (pc + 1) lv (.int (f i.toNatClampNeg) :: st)) : GW p l e R s m args below meth c nL A Q (gR D cl B M) cells slots pc lv (.int i :: .ref a :: st) := fun H locs ls hR hS hl =>
  va_zald (D := D) (cl := cl) (ws := [(a, .inl (cA, n, .inl f))]) C.1 C.2.1 hK (hR.p1 ha) 0 t0 rfl ht hi hd (kk H locs ls hR hS hl)
theorem g_zast (C : CallFix p m c cc nL s args Ts own) (hK : va_K D cl tys s) {r a n t0 : Nat} {cA : ClassId} {f : Nat → Int32} {i : Int32} {x : Int32} (ht : tys[t0]? = some (cA, .boolean)) (hd : decode cc pc = .ok (.bastore, 1)) (ha : M.1 a = some (r, .inl (cA, n, .inl f))) (hi : vp_in i n) (kk : GW p l e R s m args below meth c nL (gA B) Q (gR D cl B (gup M a (r, .inl (cA, n, .inl (upd f i.toNatClampNeg (vp_nar .boolean x)))))) cells slots (pc + 1) lv st) : GW p l e R s m args below meth c nL (gA B) Q (gR D cl B M) cells slots pc lv (.int x :: .int i :: .ref a :: st) := fun H locs ls hR hS hl => by
  refine W.zast C.1 C.2.1 (hR.2 a _ ha).2 ((hK.2 t0 _ ht).1 n (fun j => .int (f j))) (fun q => by cases q) (by show ¬ (i < 0 ∨ (arrV _ _ _).slots.size ≤ _); rw [arrV_size]; exact hi) rfl rfl hd fun H1 e1 z oq => ?_
  refine kk H1 _ ls (hR.put1 ha ?_ z oq) (hS.put z oq (hR.2 a _ ha).1) hl
  show H1[a]? = some (vp_cell _ _)
  rw [e1]
  rw [vp_cell_i, vp_cell_i, arrV_store]
  congr 2
  funext q
  by_cases hq : q = i.toNatClampNeg
  · subst hq
    simp [updV, upd, vp_nar]
    try rfl
  · simp [updV, upd, vp_nar, hq]
theorem g_aald (C : CallFix p m c cc nL s args Ts own) (hK : va_K D cl tys s) {r a n t0 : Nat} {cA : ClassId} {Cn : String} {f : Nat → Option Nat} {i : Int32} (ht : tys[t0]? = some (cA, .object Cn)) (hd : decode cc pc = .ok (.aaload, 1)) (ha : M.1 a = some (r, .inl (cA, n, .inr (.inr (.inr (.inr f)))))) (hi : vp_in i n) (kk : GW p l e R s m args below meth c nL A Q (gR D cl B M) cells slots (pc + 1) lv (va_rf (f i.toNatClampNeg) :: st)) : GW p l e R s m args below meth c nL A Q (gR D cl B M) cells slots pc lv (.int i :: .ref a :: st) := fun H locs ls hR hS hl =>
  va_aldq (D := D) (cl := cl) (ws := [(a, .inl (cA, n, .inr (.inr (.inr (.inr f)))))]) C.1 C.2.1 hK (hR.p1 ha) 0 t0 rfl ht hi hd (kk H locs ls hR hS hl)
theorem g_aast (C : CallFix p m c cc nL s args Ts own) (hK : va_K D cl tys s) {r a n t0 ci v r2 : Nat} {cA : ClassId} {rc : vw_C} {vs : List Value} {f : Nat → Option Nat} {i : Int32} (ht : tys[t0]? = some (cA, .object rc.1)) (hc : cl[ci]? = some rc) (hd : decode cc pc = .ok (.aastore, 1)) (ha : M.1 a = some (r, .inl (cA, n, .inr (.inr (.inr (.inr f)))))) (hv : M.1 v = some (r2, .inr (ci, vs))) (hi : vp_in i n) (kk : GW p l e R s m args below meth c nL (gA B) Q (gR D cl B (gup M a (r, .inl (cA, n, .inr (.inr (.inr (.inr (va_up f i.toNatClampNeg (some v))))))))) cells slots (pc + 1) lv st) : GW p l e R s m args below meth c nL (gA B) Q (gR D cl B M) cells slots pc lv (.ref v :: .int i :: .ref a :: st) := fun H locs ls hR hS hl => by
  have hlt : i.toNatClampNeg < n := Nat.not_le.mp fun q => hi (Or.inr q)
  have h0 : ¬ i < 0 := fun q => hi (Or.inl q)
  obtain ⟨r', hr', cellV, g1, g2, g3, -⟩ := (hR.2 v _ hv).2
  have hcls := (hK.1 ci rc hc).2
  obtain ⟨kA, comp, k1, k2, k3, -⟩ := (hK.2 t0 _ ht).2
  have hcomp : comp = D.1 ci := Option.some.inj (k3.symm.trans hcls.1)
  subst hcomp
  obtain ⟨kC, hkC, -⟩ := hcls.2
  refine W.aast C.1 C.2.1 (hR.2 a _ ha).2 (fun q h => by cases h) (fun h => by cases h) k1 k2 rfl hkC ⟨h0, by show _ < (arrV _ _ _).slots.size; rw [arrV_size]; exact hlt⟩ g1 (fun q h => by rw [g3] at h; cases h) (by rw [g2]; exact hkC) (by rw [g2]; exact va_assign hcls) rfl rfl hd fun H1 e1 z oq => ?_
  refine kk H1 _ ls (hR.put1 ha ?_ z oq) (hS.put z oq (hR.2 a _ ha).1) hl
  show H1[a]? = some (vp_cell _ _)
  rw [e1]
  rw [vp_cell_q, vp_cell_q, arrV_store]
  congr 2
  funext q
  by_cases hq : q = i.toNatClampNeg
  · subst hq
    simp [updV, va_up, va_rf]
  · simp [updV, va_up, hq]
theorem g_aastN (C : CallFix p m c cc nL s args Ts own) (hK : va_K D cl tys s) {r a n t0 : Nat} {cA : ClassId} {Cn : String} {f : Nat → Option Nat} {i : Int32} (ht : tys[t0]? = some (cA, .object Cn)) (hd : decode cc pc = .ok (.aastore, 1)) (ha : M.1 a = some (r, .inl (cA, n, .inr (.inr (.inr (.inr f)))))) (hi : vp_in i n) (kk : GW p l e R s m args below meth c nL (gA B) Q (gR D cl B (gup M a (r, .inl (cA, n, .inr (.inr (.inr (.inr (va_up f i.toNatClampNeg none)))))))) cells slots (pc + 1) lv st) : GW p l e R s m args below meth c nL (gA B) Q (gR D cl B M) cells slots pc lv (.null :: .int i :: .ref a :: st) := fun H locs ls hR hS hl => by
  refine va_WaastN (C := Cn) C.1 C.2.1 (hR.2 a _ ha).2 ((hK.2 t0 _ ht).1 n (fun j => va_rf (f j))) (fun h => by cases h) (by show ¬ (i < 0 ∨ (arrV _ _ _).slots.size ≤ _); rw [arrV_size]; exact hi) rfl rfl hd fun H1 e1 z oq => ?_
  refine kk H1 _ ls (hR.put1 ha ?_ z oq) (hS.put z oq (hR.2 a _ ha).1) hl
  show H1[a]? = some (vp_cell _ _)
  rw [e1]
  rw [vp_cell_q, vp_cell_q, arrV_store]
  congr 2
  funext q
  by_cases hq : q = i.toNatClampNeg
  · subst hq
    simp [updV, va_up, va_rf]
  · simp [updV, va_up, hq]
theorem g_alen (C : CallFix p m c cc nL s args Ts own) (hK : va_K D cl tys s) {r a t0 : Nat} {cA : ClassId} {x : vp_A} {ty : FieldType} {v : Int32} (ht : tys[t0]? = some (cA, ty)) (hd : decode cc pc = .ok (.arraylength, 1)) (ha : M.1 a = some (r, .inl (cA, x))) (hv : Int32.ofNat x.1 = v) (kk : GW p l e R s m args below meth c nL A Q (gR D cl B M) cells slots (pc + 1) lv (.int v :: st)) : GW p l e R s m args below meth c nL A Q (gR D cl B M) cells slots pc lv (.ref a :: st) := fun H locs ls hR hS hl =>
  va_alen (D := D) (cl := cl) (ws := [(a, .inl (cA, x))]) C.1 C.2.1 hK (hR.p1 ha) 0 t0 rfl ht hv hd (kk H locs ls hR hS hl)
theorem gS.new {A : Nat → Prop} {H0 H H1 : Heap} {locs : List Loc} (hS : va_S A H0 H locs) (hz : H1.size = H.size + 1) (oq : ∀ q : Nat, q < H.size → H1[q]? = H[q]?) : va_S A H0 H1 locs := ⟨by rw [hz]; exact Nat.le_succ_of_le hS.1, fun x h1 h2 => (oq x (Nat.lt_of_lt_of_le h1 hS.1)).trans (hS.2.1 x h1 h2), hS.2.2⟩
theorem g_new (C : CallFix p m c cc nL s args Ts own) (hK : va_K D cl tys s) {ci index N : Nat} {Cn : String} {T : u_T} {fs : List Value} (hin : ∀ w ∈ u_ws Cn T N, w ∈ Ts) (hc : cl[ci]? = some (Cn, T, N)) (ty : Nat → FieldType) (hty : ∀ k, k < N → parseFieldDescriptor (T k).2.2.1 = some (ty k)) (hcl : Cond.classLink own index Cn ∈ Ts) (hinst : Cond.instantiable Cn N ∈ Ts) (hini : Cond.initialized Cn ∈ Ts) (hfs : ∀ j, j < N → defaultValue (ty j) = vp_V fs j) (hd : decode cc pc = .ok (.new index, 3)) (hcells : cells + 1 ≤ R.cells) (hslots : slots + N ≤ R.slots) (r : Nat) (kk : GW p l e R s m args below meth c nL A Q (gR D cl B (gnw M (r, .inr (ci, fs)) N)) (cells + 1) (slots + N) (pc + 3) lv (.ref M.2.1 :: st)) : GW p l e R s m args below meth c nL A Q (gR D cl B M) cells slots pc lv st := fun H locs ls hR hS hl => by
  have hKn := hK.1 ci _ hc
  refine W.newcK C.1 C.2.1 C.2.2.2.1 (C.2.2.2.2 _ hcl) (C.2.2.2.2 _ hinst) (C.2.2.2.2 _ hini) rfl hd hcells hslots hKn.2.1 rfl fun H1 kC hkC e1 z1 o1 => ?_
  rw [hR.1.2]
  exact kk H1 locs ls (hR.new1 ⟨_, hc, (u_born ty C.2.2.2.2 hin hKn hkC e1 hty).to hfs⟩ z1 o1) (gS.new hS z1 o1) hl
theorem g_newi (C : CallFix p m c cc nL s args Ts own) (hK : va_K D cl tys s) {t0 : Nat} {cA : ClassId} {n : Int32} {N : Nat} (ht : tys[t0]? = some (cA, .int)) (harr : Cond.arrayClass .int ∈ Ts) (hn : ¬ n < 0) (hN : n.toNatClampNeg = N) (hby : N * 4 ≤ 536870912) (hd : decode cc pc = .ok (.newarray .int, 2)) (hcells : cells + 1 ≤ R.cells) (hslots : slots + N ≤ R.slots) (r : Nat) (kk : GW p l e R s m args below meth c nL A Q (gR D cl B (gnw M (r, .inl (cA, N, .inl (fun _ => 0))) N)) (cells + 1) (slots + N) (pc + 2) lv (.ref M.2.1 :: st)) : GW p l e R s m args below meth c nL A Q (gR D cl B M) cells slots pc lv (.int n :: st) := fun H locs ls hR hS hl => by
  refine va_newaK C.1 C.2.1 (atype := .int) (C.2.2.2.2 _ harr) rfl hd rfl hn hN hby hcells hslots rfl fun H1 cA' e1 z1 o1 hAr hNm => ?_
  have e3 : cA' = cA := Option.some.inj (hNm.symm.trans (hK.2 t0 _ ht).2)
  subst e3
  rw [hR.1.2]
  exact kk H1 locs ls (hR.new1 (show H1[H.size]? = some (vp_cell _ _) from e1) z1 o1) (gS.new hS z1 o1) hl
theorem g_newl (C : CallFix p m c cc nL s args Ts own) (hK : va_K D cl tys s) {t0 : Nat} {cA : ClassId} {n : Int32} {N : Nat} (ht : tys[t0]? = some (cA, .long)) (harr : Cond.arrayClass .long ∈ Ts) (hn : ¬ n < 0) (hN : n.toNatClampNeg = N) (hby : N * 8 ≤ 536870912) (hd : decode cc pc = .ok (.newarray .long, 2)) (hcells : cells + 1 ≤ R.cells) (hslots : slots + N ≤ R.slots) (r : Nat) (kk : GW p l e R s m args below meth c nL A Q (gR D cl B (gnw M (r, .inl (cA, N, .inr (.inl (fun _ => 0)))) N)) (cells + 1) (slots + N) (pc + 2) lv (.ref M.2.1 :: st)) : GW p l e R s m args below meth c nL A Q (gR D cl B M) cells slots pc lv (.int n :: st) := fun H locs ls hR hS hl => by
  refine va_newaK C.1 C.2.1 (atype := .long) (C.2.2.2.2 _ harr) rfl hd rfl hn hN hby hcells hslots rfl fun H1 cA' e1 z1 o1 hAr hNm => ?_
  have e3 : cA' = cA := Option.some.inj (hNm.symm.trans (hK.2 t0 _ ht).2)
  subst e3
  rw [hR.1.2]
  exact kk H1 locs ls (hR.new1 (show H1[H.size]? = some (vp_cell _ _) from e1) z1 o1) (gS.new hS z1 o1) hl
theorem g_newz (C : CallFix p m c cc nL s args Ts own) (hK : va_K D cl tys s) {t0 : Nat} {cA : ClassId} {n : Int32} {N : Nat} (ht : tys[t0]? = some (cA, .boolean)) (harr : Cond.arrayClass .boolean ∈ Ts) (hn : ¬ n < 0) (hN : n.toNatClampNeg = N) (hby : N * 1 ≤ 536870912) (hd : decode cc pc = .ok (.newarray .boolean, 2)) (hcells : cells + 1 ≤ R.cells) (hslots : slots + N ≤ R.slots) (r : Nat) (kk : GW p l e R s m args below meth c nL A Q (gR D cl B (gnw M (r, .inl (cA, N, .inl (fun _ => 0))) N)) (cells + 1) (slots + N) (pc + 2) lv (.ref M.2.1 :: st)) : GW p l e R s m args below meth c nL A Q (gR D cl B M) cells slots pc lv (.int n :: st) := fun H locs ls hR hS hl => by
  refine va_newaK C.1 C.2.1 (atype := .boolean) (C.2.2.2.2 _ harr) rfl hd rfl hn hN hby hcells hslots rfl fun H1 cA' e1 z1 o1 hAr hNm => ?_
  have e3 : cA' = cA := Option.some.inj (hNm.symm.trans (hK.2 t0 _ ht).2)
  subst e3
  rw [hR.1.2]
  exact kk H1 locs ls (hR.new1 (show H1[H.size]? = some (vp_cell _ _) from e1) z1 o1) (gS.new hS z1 o1) hl
theorem g_newq (C : CallFix p m c cc nL s args Ts own) (hK : va_K D cl tys s) {t0 index : Nat} {cA : ClassId} {Cn : String} {n : Int32} {N : Nat} (ht : tys[t0]? = some (cA, .object Cn)) (hcl : Cond.classLink own index Cn ∈ Ts) (hover : va_AO Cn s) (hn : ¬ n < 0) (hN : n.toNatClampNeg = N) (hby : N * 4 ≤ 536870912) (hd : decode cc pc = .ok (.anewarray index, 3)) (hcells : cells + 1 ≤ R.cells) (hslots : slots + N ≤ R.slots) (r : Nat) (kk : GW p l e R s m args below meth c nL A Q (gR D cl B (gnw M (r, .inl (cA, N, .inr (.inr (.inr (.inr (fun _ => none)))))) N)) (cells + 1) (slots + N) (pc + 3) lv (.ref M.2.1 :: st)) : GW p l e R s m args below meth c nL A Q (gR D cl B M) cells slots pc lv (.int n :: st) := fun H locs ls hR hS hl => by
  subst hN
  refine W.anew C.1 C.2.1 C.2.2.2.1 (C.2.2.2.2 _ hcl) (va_AO.use hover) rfl hd rfl hn hby hcells hslots fun cA' kA comp f1 f2 f3 f4 => ?_
  obtain ⟨-, -, -, -, -, e1⟩ := (hK.2 t0 _ ht).2
  have e3 : cA' = cA := Option.some.inj (f1.symm.trans e1)
  subst e3
  generalize hH1 : H.push ({ cls := cA', slots := Array.replicate n.toNatClampNeg .null, vm := .none } : Cell) = H1
  have z1 : H1.size = H.size + 1 := by rw [← hH1, Array.size_push]
  have e1 : H1[H.size]? = some (arrV cA' n.toNatClampNeg (fun _ => .null)) := by rw [← hH1, Array.getElem?_push_size, ← arrV_new]
  have o1 : ∀ q : Nat, q < H.size → H1[q]? = H[q]? := fun q hq => by rw [← hH1, Array.getElem?_push, if_neg (Nat.ne_of_lt hq)]
  rw [hR.1.2]
  exact kk H1 locs ls (hR.new1 (show H1[H.size]? = some (vp_cell _ _) from e1) z1 o1) (gS.new hS z1 o1) hl
theorem g_recv {r a ci : Nat} {q : vw_C} {fs : List Value} {H : Heap} (hK : va_K D cl tys s) (hR : gR D cl B M H) (hc : cl[ci]? = some q) (ha : M.1 a = some (r, .inr (ci, fs))) : ∃ cell : Cell, H[a]? = some cell ∧ cell.vm.isStatics = false ∧ s.vm.findClass q.1 = some cell.cls := va_recv (ws := [(a, .inr (ci, fs))]) (q0 := 0) hK (hR.p1 ha) hc rfl
theorem g_castS (C : CallFix p m c cc nL s args Ts own) (hK : va_K D cl tys s) {r a ci index : Nat} {Cn : String} {T : u_T} {N : Nat} {fs : List Value} (hc : cl[ci]? = some (Cn, T, N)) (hlink : Cond.classLink own index Cn ∈ Ts) (hd : decode cc pc = .ok (.checkcast index, 3)) (ha : M.1 a = some (r, .inr (ci, fs))) (kk : GW p l e R s m args below meth c nL A Q (gR D cl B M) cells slots (pc + 3) lv (.ref a :: st)) : GW p l e R s m args below meth c nL A Q (gR D cl B M) cells slots pc lv (.ref a :: st) := fun H locs ls hR hS hl =>
  va_castS C.1 C.2.1 C.2.2.2.1 (C.2.2.2.2 _ hlink) (hK.1 ci _ hc).2 (g_recv hK hR hc ha) hd (kk H locs ls hR hS hl)
end GC
