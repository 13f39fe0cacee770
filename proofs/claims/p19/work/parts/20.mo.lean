/-! the reference: one object with its arrays, made once; its state is numbers -/
abbrev mSt : Type := (Nat → Int32) × Int64 × (Nat → Nat → Int32) × (Nat → Nat → Int64)
/-- 0 int, 1 array of int, 2 array of boolean, 3 array of long, 4 long, 5 boolean -/
def mo_kd (k : Nat) : Nat := ([0, 0, 0, 0, 0, 1, 1, 1, 1, 1, 1, 1, 1, 1, 1, 1, 1, 1, 1, 1, 1, 1, 1, 2, 1, 1, 1, 1, 1, 1, 1, 0, 0, 0, 0, 0, 0, 0, 0, 5, 1, 1, 3, 3, 0, 0, 0, 0, 0, 0, 0, 5, 4, 3, 1, 3, 0, 1, 1, 1, 2, 0, 0, 1, 1, 3, 3] : List Nat).getD k 0
def mo_len (k : Nat) : Nat := ([0, 0, 0, 0, 0, 200, 200, 200, 200, 200, 200, 200, 200, 200, 200, 200, 40, 40, 40, 40, 520, 520, 520, 270400, 8, 8, 45, 45, 45, 45, 450, 0, 0, 0, 0, 0, 0, 0, 0, 0, 17000, 17000, 17000, 170000, 0, 0, 0, 0, 0, 0, 0, 0, 0, 10, 1000, 10000, 0, 1000, 1000, 1000, 1000, 0, 0, 42000, 42000, 42000, 420000] : List Nat).getD k 0
abbrev gtys (cs : Nat → ClassId) : List (ClassId × FieldType) := [(cs 0, .int), (cs 1, .boolean), (cs 2, .long), (cs 3, .object R_No), (cs 4, .object R_Cl), (cs 5, .object "java/lang/Object")]
def mo_f (ad : Nat → Nat) (σ : mSt) (k : Nat) : Value := if mo_kd k = 0 ∨ mo_kd k = 5 then .int (σ.1 k) else if mo_kd k = 4 then .long σ.2.1 else .ref (ad k)
def mo_fs (ad : Nat → Nat) (σ : mSt) : List Value := (List.range 67).map (mo_f ad σ)
theorem mo_at {ad : Nat → Nat} {σ : mSt} {k : Nat} (h : k < 67) : (mo_fs ad σ)[k]? = some (mo_f ad σ k) := by
  simp [mo_fs, List.getElem?_map, List.getElem?_range h]
theorem mo_fl {ad : Nat → Nat} {σ : mSt} : (mo_fs ad σ).length = 67 := by simp [mo_fs]
def mo_si (σ : mSt) (k : Nat) (x : Int32) : mSt := (va_up σ.1 k x, σ.2)
def mo_sl (σ : mSt) (x : Int64) : mSt := (σ.1, x, σ.2.2)
def mo_ai (σ : mSt) (k i : Nat) (x : Int32) : mSt := (σ.1, σ.2.1, va_up σ.2.2.1 k (upd (σ.2.2.1 k) i x), σ.2.2.2)
def mo_al (σ : mSt) (k i : Nat) (x : Int64) : mSt := (σ.1, σ.2.1, σ.2.2.1, va_up σ.2.2.2 k (vp_updL (σ.2.2.2 k) i x))
theorem mo_set_i {ad : Nat → Nat} {σ : mSt} {k : Nat} {x : Int32} (h : mo_kd k = 0 ∨ mo_kd k = 5) : (mo_fs ad σ).set k (.int x) = mo_fs ad (mo_si σ k x) := by
  apply List.ext_getElem?
  intro j
  by_cases hj : j < 67
  · by_cases hjk : j = k
    · subst hjk
      rw [List.getElem?_set_self (by rw [mo_fl]; exact hj), mo_at hj]
      simp [mo_f, mo_si, h, va_up]
    · rw [List.getElem?_set_ne (Ne.symm hjk), mo_at hj, mo_at hj]
      simp [mo_f, mo_si, va_up, hjk]
  · rw [List.getElem?_eq_none (by rw [List.length_set, mo_fl]; omega), List.getElem?_eq_none (by rw [mo_fl]; omega)]
theorem mo_set_l {ad : Nat → Nat} {σ : mSt} {k : Nat} {x : Int64} (h : k = 52) : (mo_fs ad σ).set k (.long x) = mo_fs ad (mo_sl σ x) := by
  subst h
  apply List.ext_getElem?
  intro j
  by_cases hj : j < 67
  · by_cases hjk : j = 52
    · subst hjk
      rw [List.getElem?_set_self (by rw [mo_fl]; exact hj), mo_at hj]
      rfl
    · rw [List.getElem?_set_ne (Ne.symm hjk), mo_at hj, mo_at hj]
      have h4 : mo_kd j ≠ 4 := by
        have : ∀ j, j < 67 → j ≠ 52 → mo_kd j ≠ 4 := by decide +kernel
        exact this j hj hjk
      simp [mo_f, mo_sl, h4]
  · rw [List.getElem?_eq_none (by rw [List.length_set, mo_fl]; omega), List.getElem?_eq_none (by rw [mo_fl]; omega)]
def mo_e (cs : Nat → ClassId) (σ : mSt) (k : Nat) : va_E := if mo_kd k = 1 then .inl (cs 0, mo_len k, .inl (σ.2.2.1 k)) else if mo_kd k = 2 then .inl (cs 1, mo_len k, .inl (σ.2.2.1 k)) else .inl (cs 2, mo_len k, .inr (.inl (σ.2.2.2 k)))
def mo_ar (k : Nat) : Prop := mo_kd k = 1 ∨ mo_kd k = 2 ∨ mo_kd k = 3
def RepMo (cs : Nat → ClassId) (mo : Nat) (ad : Nat → Nat) (σ : mSt) (M : gMem) : Prop := M.1 mo = some (600, .inr (12, mo_fs ad σ)) ∧ ∀ k, k < 67 → mo_ar k → M.1 (ad k) = some (601 + k, mo_e cs σ k)
def moR : List Nat := (List.range 68).map (600 + ·)
theorem moR_in1 {k : Nat} (h : k < 67) : 601 + k ∈ moR := List.mem_map.mpr ⟨1 + k, List.mem_range.mpr (by omega), by show 600 + (1 + k) = 601 + k; omega⟩
theorem moR_in {k : Nat} (h : k < 68) : 600 + k ∈ moR := List.mem_map.mpr ⟨k, List.mem_range.mpr h, rfl⟩
def mo_T (cs : Nat → ClassId) (mo : Nat) (ad : Nat → Nat) (M0 : gMem) (σ : mSt) (M : gMem) : Prop := RepMo cs mo ad σ M ∧ gFr moR M0 M ∧ M.2 = M0.2
abbrev mo_P (D : va_G) (B : Nat) (cs : Nat → ClassId) (mo : Nat) (ad : Nat → Nat) (M0 : gMem) (σ : mSt) : Heap → Prop := fun H => ∃ M, mo_T cs mo ad M0 σ M ∧ gR D gcl B M H
section MOa
variable {cs : Nat → ClassId} {mo : Nat} {ad : Nat → Nat} {M0 M : gMem} {σ : mSt}
theorem mo_T.puti {k : Nat} {x : Int32} (h : mo_T cs mo ad M0 σ M) (hk : mo_kd k = 0 ∨ mo_kd k = 5) : mo_T cs mo ad M0 (mo_si σ k x) (gup M mo (600, .inr (12, (mo_fs ad σ).set k (.int x)))) := by
  refine ⟨⟨by rw [gup_s, mo_set_i hk], fun j hj ha => ?_⟩, ⟨h.2.1.trans (gFr.up h.1.1 (moR_in (k := 0) (by decide))), h.2.2⟩⟩
  have h1 := h.1.2 j hj ha
  rw [gup_n (gne h1 h.1.1 (by show 601 + j ≠ 600; omega)), h1]
  rfl
theorem mo_T.putl {x : Int64} (h : mo_T cs mo ad M0 σ M) : mo_T cs mo ad M0 (mo_sl σ x) (gup M mo (600, .inr (12, (mo_fs ad σ).set 52 (.long x)))) := by
  refine ⟨⟨by rw [gup_s, mo_set_l rfl], fun j hj ha => ?_⟩, ⟨h.2.1.trans (gFr.up h.1.1 (moR_in (k := 0) (by decide))), h.2.2⟩⟩
  have h1 := h.1.2 j hj ha
  rw [gup_n (gne h1 h.1.1 (by show 601 + j ≠ 600; omega)), h1]
  rfl
theorem mo_T.asti {k i : Nat} {x : Int32} (h : mo_T cs mo ad M0 σ M) (hk : k < 67) (ha : mo_kd k = 1 ∨ mo_kd k = 2) {e : va_E} (he : e = mo_e cs (mo_ai σ k i x) k) : mo_T cs mo ad M0 (mo_ai σ k i x) (gup M (ad k) (601 + k, e)) := by
  have h0 := h.1.2 k hk (by rcases ha with h | h <;> simp [mo_ar, h])
  refine ⟨⟨?_, fun j hj haj => ?_⟩, ⟨h.2.1.trans (gFr.up h0 (moR_in1 hk)), h.2.2⟩⟩
  · rw [gup_n (gne h.1.1 h0 (by show 600 ≠ 601 + k; omega)), h.1.1]
    rfl
  · by_cases hjk : j = k
    · subst hjk
      rw [gup_s, he]
    · have h1 := h.1.2 j hj haj
      rw [gup_n (gne h1 h0 (by show 601 + j ≠ 601 + k; omega)), h1]
      simp [mo_e, mo_ai, va_up, hjk]
theorem mo_T.astl {k i : Nat} {x : Int64} (h : mo_T cs mo ad M0 σ M) (hk : k < 67) (ha : mo_kd k = 3) {e : va_E} (he : e = mo_e cs (mo_al σ k i x) k) : mo_T cs mo ad M0 (mo_al σ k i x) (gup M (ad k) (601 + k, e)) := by
  have h0 := h.1.2 k hk (by simp [mo_ar, ha])
  refine ⟨⟨?_, fun j hj haj => ?_⟩, ⟨h.2.1.trans (gFr.up h0 (moR_in1 hk)), h.2.2⟩⟩
  · rw [gup_n (gne h.1.1 h0 (by show 600 ≠ 601 + k; omega)), h.1.1]
    rfl
  · by_cases hjk : j = k
    · subst hjk
      rw [gup_s, he]
    · have h1 := h.1.2 j hj haj
      rw [gup_n (gne h1 h0 (by show 601 + j ≠ 601 + k; omega)), h1]
      simp [mo_e, mo_al, va_up, hjk]
end MOa
section MOb
variable {p : Program} {l : Launch} {e : Env} {R : Room} {s : State} {m : MethodId} {args : Array Value} {below : List Frame} {meth : Method} {c : Code} {nL : Nat} {D : va_G} {B : Nat} {dE : Nat × Nat} {A : Nat → Prop} {Q : State → Prop} {cells slots pc : Nat} {lv : List (Nat × Value)} {st : List Value} {cc : ByteArray} {cs : Nat → ClassId} {mo : Nat} {ad : Nat → Nat} {M0 : gMem} {σ : mSt}
theorem m_get (C : CallFix p m c cc nL s args gT R_Mo) (hE : gEnv D gcl (gtys cs) gz B dE s) {index : Nat} (k : Nat) (hk : k < 67) {v : Value} (hv : mo_f ad σ k = v) (hlink : Cond.fieldLink R_Mo index (F_Mo k).1 (F_Mo k).2.1 (F_Mo k).2.2.1 ∈ gT) (hd : decode cc pc = .ok (.getfield index, 3)) (kk : GW p l e R s m args below meth c nL A Q (mo_P D B cs mo ad M0 σ) cells slots (pc + 3) lv (v :: st)) : GW p l e R s m args below meth c nL A Q (mo_P D B cs mo ad M0 σ) cells slots pc lv (.ref mo :: st) :=
  GW.ex (fun M hM => g_get C hE.1 (ci := 12) i_Mo rfl k hk hlink hd hM.1.1 (by rw [mo_at hk, hv]) (GW.inx M hM kk))
theorem m_puti (C : CallFix p m c cc nL s args gT R_Mo) (hE : gEnv D gcl (gtys cs) gz B dE s) {index : Nat} (k : Nat) (hk : k < 67) (h0 : mo_kd k = 0) (ht : t_Mo k = .int) (hfin : (F_Mo k).2.2.2 = false) {x : Int32} (hlink : Cond.fieldLink R_Mo index (F_Mo k).1 (F_Mo k).2.1 (F_Mo k).2.2.1 ∈ gT) (hd : decode cc pc = .ok (.putfield index, 3)) (kk : GW p l e R s m args below meth c nL (gA B) Q (mo_P D B cs mo ad M0 (mo_si σ k x)) cells slots (pc + 3) lv st) : GW p l e R s m args below meth c nL (gA B) Q (mo_P D B cs mo ad M0 σ) cells slots pc lv (.int x :: .ref mo :: st) :=
  GW.ex (fun M hM => g_put C hE.1 (ci := 12) i_Mo rfl k hk hlink t_Mo t_Mo_ok n_Mo hfin (by rw [ht]; rfl) (by rw [ht]; rfl) hd hM.1.1 (by rw [mo_fl]; exact hk) (GW.inx (T := mo_T cs mo ad M0 (mo_si σ k x)) _ (hM.puti (Or.inl h0)) kk))
theorem m_putz (C : CallFix p m c cc nL s args gT R_Mo) (hE : gEnv D gcl (gtys cs) gz B dE s) {index : Nat} (k : Nat) (hk : k < 67) (h0 : mo_kd k = 5) (ht : t_Mo k = .boolean) (hfin : (F_Mo k).2.2.2 = false) {x : Int32} (hx : x = 0 ∨ x = 1) (hlink : Cond.fieldLink R_Mo index (F_Mo k).1 (F_Mo k).2.1 (F_Mo k).2.2.1 ∈ gT) (hd : decode cc pc = .ok (.putfield index, 3)) (kk : GW p l e R s m args below meth c nL (gA B) Q (mo_P D B cs mo ad M0 (mo_si σ k x)) cells slots (pc + 3) lv st) : GW p l e R s m args below meth c nL (gA B) Q (mo_P D B cs mo ad M0 σ) cells slots pc lv (.int x :: .ref mo :: st) :=
  GW.ex (fun M hM => g_put C hE.1 (ci := 12) i_Mo rfl k hk hlink t_Mo t_Mo_ok n_Mo hfin (by rw [ht]; rcases hx with rfl | rfl <;> rfl) (by rw [ht]; rcases hx with rfl | rfl <;> rfl) hd hM.1.1 (by rw [mo_fl]; exact hk) (GW.inx (T := mo_T cs mo ad M0 (mo_si σ k x)) _ (hM.puti (Or.inr h0)) kk))
theorem m_putl (C : CallFix p m c cc nL s args gT R_Mo) (hE : gEnv D gcl (gtys cs) gz B dE s) {index : Nat} {x : Int64} (hlink : Cond.fieldLink R_Mo index (F_Mo 52).1 (F_Mo 52).2.1 (F_Mo 52).2.2.1 ∈ gT) (hd : decode cc pc = .ok (.putfield index, 3)) (kk : GW p l e R s m args below meth c nL (gA B) Q (mo_P D B cs mo ad M0 (mo_sl σ x)) cells slots (pc + 3) lv st) : GW p l e R s m args below meth c nL (gA B) Q (mo_P D B cs mo ad M0 σ) cells slots pc lv (.long x :: .ref mo :: st) :=
  GW.ex (fun M hM => g_put C hE.1 (ci := 12) i_Mo rfl 52 (by decide) hlink t_Mo t_Mo_ok n_Mo rfl rfl rfl hd hM.1.1 (by rw [mo_fl]; decide) (GW.inx (T := mo_T cs mo ad M0 (mo_sl σ x)) _ hM.putl kk))
theorem m_ald (C : CallFix p m c cc nL s args gT R_Mo) (hE : gEnv D gcl (gtys cs) gz B dE s) (k : Nat) (hk : k < 67) (h1 : mo_kd k = 1) {i : Int32} (hi : vp_in i (mo_len k)) (hd : decode cc pc = .ok (.iaload, 1)) (kk : GW p l e R s m args below meth c nL A Q (mo_P D B cs mo ad M0 σ) cells slots (pc + 1) lv (.int (σ.2.2.1 k i.toNatClampNeg) :: st)) : GW p l e R s m args below meth c nL A Q (mo_P D B cs mo ad M0 σ) cells slots pc lv (.int i :: .ref (ad k) :: st) :=
  GW.ex (fun M hM => g_iald C hE.1 (r := 601 + k) (t0 := 0) (cA := cs 0) (n := mo_len k) (f := σ.2.2.1 k) rfl hd (by rw [hM.1.2 k hk (Or.inl h1)]; simp [mo_e, h1]) hi (GW.inx M hM kk))
theorem m_ast (C : CallFix p m c cc nL s args gT R_Mo) (hE : gEnv D gcl (gtys cs) gz B dE s) (k : Nat) (hk : k < 67) (h1 : mo_kd k = 1) {i x : Int32} (hi : vp_in i (mo_len k)) (hd : decode cc pc = .ok (.iastore, 1)) (kk : GW p l e R s m args below meth c nL (gA B) Q (mo_P D B cs mo ad M0 (mo_ai σ k i.toNatClampNeg x)) cells slots (pc + 1) lv st) : GW p l e R s m args below meth c nL (gA B) Q (mo_P D B cs mo ad M0 σ) cells slots pc lv (.int x :: .int i :: .ref (ad k) :: st) :=
  GW.ex (fun M hM => g_iast C hE.1 (r := 601 + k) (t0 := 0) (cA := cs 0) (n := mo_len k) (f := σ.2.2.1 k) rfl hd (by rw [hM.1.2 k hk (Or.inl h1)]; simp [mo_e, h1]) hi (GW.inx (T := mo_T cs mo ad M0 (mo_ai σ k i.toNatClampNeg x)) _ (hM.asti hk (Or.inl h1) (by simp [mo_e, h1, mo_ai, va_up])) kk))
theorem m_lald (C : CallFix p m c cc nL s args gT R_Mo) (hE : gEnv D gcl (gtys cs) gz B dE s) (k : Nat) (hk : k < 67) (h1 : mo_kd k = 3) {i : Int32} (hi : vp_in i (mo_len k)) (hd : decode cc pc = .ok (.laload, 1)) (kk : GW p l e R s m args below meth c nL A Q (mo_P D B cs mo ad M0 σ) cells slots (pc + 1) lv (.long (σ.2.2.2 k i.toNatClampNeg) :: st)) : GW p l e R s m args below meth c nL A Q (mo_P D B cs mo ad M0 σ) cells slots pc lv (.int i :: .ref (ad k) :: st) :=
  GW.ex (fun M hM => g_lald C hE.1 (r := 601 + k) (t0 := 2) (cA := cs 2) (n := mo_len k) (f := σ.2.2.2 k) rfl hd (by rw [hM.1.2 k hk (Or.inr (Or.inr h1))]; simp [mo_e, h1]) hi (GW.inx M hM kk))
theorem m_last (C : CallFix p m c cc nL s args gT R_Mo) (hE : gEnv D gcl (gtys cs) gz B dE s) (k : Nat) (hk : k < 67) (h1 : mo_kd k = 3) {i : Int32} {x : Int64} (hi : vp_in i (mo_len k)) (hd : decode cc pc = .ok (.lastore, 1)) (kk : GW p l e R s m args below meth c nL (gA B) Q (mo_P D B cs mo ad M0 (mo_al σ k i.toNatClampNeg x)) cells slots (pc + 1) lv st) : GW p l e R s m args below meth c nL (gA B) Q (mo_P D B cs mo ad M0 σ) cells slots pc lv (.long x :: .int i :: .ref (ad k) :: st) :=
  GW.ex (fun M hM => g_last C hE.1 (r := 601 + k) (t0 := 2) (cA := cs 2) (n := mo_len k) (f := σ.2.2.2 k) rfl hd (by rw [hM.1.2 k hk (Or.inr (Or.inr h1))]; simp [mo_e, h1]) hi (GW.inx (T := mo_T cs mo ad M0 (mo_al σ k i.toNatClampNeg x)) _ (hM.astl hk h1 (by simp [mo_e, h1, mo_al, va_up])) kk))
end MOb
/-- a method of the reference: it returns, with no new cells; the state behind it -/
def mMet (l : Launch) (y : MethodName) (cw : Cond) (rm : Room) (D : va_G) (cs : Nat → ClassId) (B : Nat) (dE : Nat × Nat) (mo : Nat) (ad : Nat → Nat) (av : List Value) (σ : mSt) (Post : Option Value → mSt → Prop) : Prop :=
  ∀ M : gMem, RepMo cs mo ad σ M → gMet l y (cw :: gT) rm D gcl (gtys cs) gz B dE (gA B) M av (fun x M' k n => k = 0 ∧ n = 0 ∧ ∃ (r : Option Value) (σ' : mSt), x = .inl r ∧ Post r σ' ∧ mo_T cs mo ad M σ' M')
