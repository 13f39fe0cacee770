/-! the reference's methods as functions over its state: by program (wip/tools/decomp.py) -/
def F_Mo_checkPerform_j57 (n : Nat) (σ : mSt) (x1 : Int32) : mSt := mbind (F_Mo_ends σ (σ.2.2.1 25 (σ.2.2.1 6 x1.toNatClampNeg).toNatClampNeg) ((σ.1 33) ||| (1 <<< ((σ.2.2.1 6 x1.toNatClampNeg) &&& 31)))) (fun w15 => w15)
def S_Mo_checkPerform_j57 (n : Nat) (σ : mSt) (x1 : Int32) : Prop := (vp_in x1 200) ∧ ((vp_in (σ.2.2.1 6 x1.toNatClampNeg) 8) ∧ ((vp_in x1 200) ∧ ((S_Mo_ends σ (σ.2.2.1 25 (σ.2.2.1 6 x1.toNatClampNeg).toNatClampNeg) ((σ.1 33) ||| (1 <<< ((σ.2.2.1 6 x1.toNatClampNeg) &&& 31)))) ∧ (mbind (F_Mo_ends σ (σ.2.2.1 25 (σ.2.2.1 6 x1.toNatClampNeg).toNatClampNeg) ((σ.1 33) ||| (1 <<< ((σ.2.2.1 6 x1.toNatClampNeg) &&& 31)))) (fun w15 => True)))))
set_option maxRecDepth 100000 in
set_option maxHeartbeats 4000000 in
theorem w_Mo_checkPerform_j57 {p : Program} {l : Launch} {e : Env} {s : State} {m : MethodId} {args : Array Value} {below : List Frame} {meth : Method} {c : Code} {D : va_G} {cs : Nat → ClassId} {B : Nat} {dE : Nat × Nat} {mo : Nat} {ad : Nat → Nat} {M0 : gMem} (C : CallFix p m c c_Mo_checkPerform 3 s args gT R_Mo) (hE : gEnv D gcl (gtys cs) gz B dE s) (hr : meth.sig.returnType = none) (hlocks : meth.locks = false) (n : Nat) (σ : mSt) (x1 : Int32) (Fv : mSt) (hS : S_Mo_checkPerform_j57 n σ x1) (hF : F_Mo_checkPerform_j57 n σ x1 = Fv) : GW p l e ({ frames := 1, cells := 0, slots := 0, locals := 23 } : Room) s m args below meth c 3 (gA B) (mQ below D cs B mo ad M0 (fun r σ' => r = none ∧ σ' = Fv) args s) (mo_P D B cs mo ad M0 σ) 0 0 57 [(0, .ref mo), (1, .int x1)] [] := by
  unfold F_Mo_checkPerform_j57 at hF
  unfold S_Mo_checkPerform_j57 at hS
  refine g_aload_n C d_Mo_checkPerform_57 rfl ?_
  refine g_aload_n C d_Mo_checkPerform_58 rfl ?_
  refine m_geta C hE 25 (by decide) (by decide) (by decide) kf_Mo_72 d_Mo_checkPerform_59 ?_
  refine g_aload_n C d_Mo_checkPerform_62 rfl ?_
  refine m_geta C hE 6 (by decide) (by decide) (by decide) kf_Mo_13 d_Mo_checkPerform_63 ?_
  refine g_iload_n C d_Mo_checkPerform_66 rfl ?_
  obtain ⟨hi12, hS⟩ := hS
  refine m_ald C hE 6 (by decide) (by decide) hi12 d_Mo_checkPerform_67 ?_
  obtain ⟨hi13, hS⟩ := hS
  refine m_ald C hE 25 (by decide) (by decide) hi13 d_Mo_checkPerform_68 ?_
  refine g_aload_n C d_Mo_checkPerform_69 rfl ?_
  refine m_geti C hE 33 (by decide) (by decide) kf_Mo_230 d_Mo_checkPerform_70 ?_
  refine g_iconst (v := 1) C d_Mo_checkPerform_73 (by decide) ?_
  refine g_aload_n C d_Mo_checkPerform_74 rfl ?_
  refine m_geta C hE 6 (by decide) (by decide) (by decide) kf_Mo_13 d_Mo_checkPerform_75 ?_
  refine g_iload_n C d_Mo_checkPerform_78 rfl ?_
  obtain ⟨hi14, hS⟩ := hS
  refine m_ald C hE 6 (by decide) (by decide) hi14 d_Mo_checkPerform_79 ?_
  refine g_ishl C d_Mo_checkPerform_80 ?_
  refine g_ior C d_Mo_checkPerform_81 ?_
  obtain ⟨hs16, hS⟩ := hS
  refine m_callV (n := 2) (av := [.int (σ.2.2.1 25 (σ.2.2.1 6 x1.toNatClampNeg).toNatClampNeg), .int ((σ.1 33) ||| (1 <<< ((σ.2.2.1 6 x1.toNatClampNeg) &&& 31)))]) (rest := []) C hE (mc_Mo_ends l D cs B dE mo ad _ _ _ hs16) km_Mo_240 kv_Mo_ends kl_Mo_ends kd_Mo_ends ki_Mo ⟨rfl, by decide, by decide, by decide⟩ rfl ⟨rfl, rfl⟩ (by decide) (by decide) d_Mo_checkPerform_82 (Nat.le_of_ble_eq_true rfl) _ rfl (fun v1 σ1 hv => ?_)
  obtain ⟨rfl, rfl⟩ := hv
  rw [mbind_eq] at hF hS
  generalize F_Mo_ends σ (σ.2.2.1 25 (σ.2.2.1 6 x1.toNatClampNeg).toNatClampNeg) ((σ.1 33) ||| (1 <<< ((σ.2.2.1 6 x1.toNatClampNeg) &&& 31))) = w15 at hF hS ⊢
  refine GW.eqs (st' := []) rfl ?_
  exact m_vret C hr hlocks d_Mo_checkPerform_85 (by rw [← hF]; exact ⟨rfl, rfl⟩)
def F_Mo_checkPerform (n : Nat) (σ : mSt) (x1 : Int32) (x2 : Int32) : mSt := if x2 = 0 then (mbind (F_Mo_into n σ (σ.2.2.1 9 x1.toNatClampNeg)) (fun w10 => w10)) else (if (σ.2.2.1 23 ((520 * (σ.1 32)) + (σ.2.2.1 24 (σ.2.2.1 6 x1.toNatClampNeg).toNatClampNeg)).toNatClampNeg) = 0 then (mbind (F_Mo_wrong σ 6 (σ.2.2.1 9 x1.toNatClampNeg)) (fun w7 => F_Mo_checkPerform_j57 n w7 x1)) else (F_Mo_checkPerform_j57 n σ x1))
def S_Mo_checkPerform (n : Nat) (σ : mSt) (x1 : Int32) (x2 : Int32) : Prop := if x2 = 0 then ((vp_in x1 200) ∧ ((S_Mo_into n σ (σ.2.2.1 9 x1.toNatClampNeg)) ∧ (mbind (F_Mo_into n σ (σ.2.2.1 9 x1.toNatClampNeg)) (fun w10 => True)))) else ((vp_in x1 200) ∧ ((vp_in (σ.2.2.1 6 x1.toNatClampNeg) 8) ∧ ((vp_in ((520 * (σ.1 32)) + (σ.2.2.1 24 (σ.2.2.1 6 x1.toNatClampNeg).toNatClampNeg)) 270400) ∧ (if (σ.2.2.1 23 ((520 * (σ.1 32)) + (σ.2.2.1 24 (σ.2.2.1 6 x1.toNatClampNeg).toNatClampNeg)).toNatClampNeg) = 0 then ((vp_in x1 200) ∧ ((S_Mo_wrong σ 6 (σ.2.2.1 9 x1.toNatClampNeg)) ∧ (mbind (F_Mo_wrong σ 6 (σ.2.2.1 9 x1.toNatClampNeg)) (fun w7 => S_Mo_checkPerform_j57 n w7 x1)))) else (S_Mo_checkPerform_j57 n σ x1)))))
set_option maxRecDepth 100000 in
set_option maxHeartbeats 4000000 in
theorem mc_Mo_checkPerform (l : Launch) (D : va_G) (cs : Nat → ClassId) (B : Nat) (dE : Nat × Nat) (mo : Nat) (ad : Nat → Nat) (n : Nat) (σ : mSt) (x1 : Int32) (x2 : Int32) (hS : S_Mo_checkPerform n σ x1 x2) : mMet l y_Mo_checkPerform (Cond.code y_Mo_checkPerform c_Mo_checkPerform 3 none) ({ frames := 1, cells := 0, slots := 0, locals := 23 } : Room) D cs B dE mo ad [.ref mo, .int x1, .int x2] σ (fun r σ' => r = none ∧ σ' = F_Mo_checkPerform n σ x1 x2) := by
  refine mMet.ofW (by decide) rfl (Nat.le_of_ble_eq_true rfl) (lv0 := [(0, .ref mo), (1, .int x1), (2, .int x2)]) rfl ?_
  intro p e s m args below meth c M0 C hE hr hlocks
  generalize hF : F_Mo_checkPerform n σ x1 x2 = Fv
  unfold F_Mo_checkPerform at hF
  unfold S_Mo_checkPerform at hS
  refine g_iload_n C d_Mo_checkPerform_0 rfl ?_
  refine g_if_ne C 17 d_Mo_checkPerform_1 (by decide) (fun hc1 => ?_) (fun hc1 => ?_)
  · rw [if_neg hc1] at hF hS
    refine g_aload_n C d_Mo_checkPerform_17 rfl ?_
    refine m_geta C hE 23 (by decide) (by decide) (by decide) kf_Mo_65 d_Mo_checkPerform_18 ?_
    refine g_sipush (v := 520) C d_Mo_checkPerform_21 (by decide) ?_
    refine g_aload_n C d_Mo_checkPerform_24 rfl ?_
    refine m_geti C hE 32 (by decide) (by decide) kf_Mo_227 d_Mo_checkPerform_25 ?_
    refine g_imul C d_Mo_checkPerform_28 ?_
    refine g_aload_n C d_Mo_checkPerform_29 rfl ?_
    refine m_geta C hE 24 (by decide) (by decide) (by decide) kf_Mo_69 d_Mo_checkPerform_30 ?_
    refine g_aload_n C d_Mo_checkPerform_33 rfl ?_
    refine m_geta C hE 6 (by decide) (by decide) (by decide) kf_Mo_13 d_Mo_checkPerform_34 ?_
    refine g_iload_n C d_Mo_checkPerform_37 rfl ?_
    obtain ⟨hi2, hS⟩ := hS
    refine m_ald C hE 6 (by decide) (by decide) hi2 d_Mo_checkPerform_38 ?_
    obtain ⟨hi3, hS⟩ := hS
    refine m_ald C hE 24 (by decide) (by decide) hi3 d_Mo_checkPerform_39 ?_
    refine g_iadd C d_Mo_checkPerform_40 ?_
    obtain ⟨hi4, hS⟩ := hS
    refine m_zald C hE 23 (by decide) (by decide) hi4 d_Mo_checkPerform_41 ?_
    refine g_if_ne C 57 d_Mo_checkPerform_42 (by decide) (fun hc5 => ?_) (fun hc5 => ?_)
    · rw [if_neg hc5] at hF hS
      refine GW.subl [0, 1] rfl ?_
      exact w_Mo_checkPerform_j57 C hE hr hlocks n σ x1 Fv hS hF
    · rw [if_pos hc5] at hF hS
      refine g_aload_n C d_Mo_checkPerform_45 rfl ?_
      refine g_bipush (v := 6) C d_Mo_checkPerform_46 (by decide) ?_
      refine g_aload_n C d_Mo_checkPerform_48 rfl ?_
      refine m_geta C hE 9 (by decide) (by decide) (by decide) kf_Mo_22 d_Mo_checkPerform_49 ?_
      refine g_iload_n C d_Mo_checkPerform_52 rfl ?_
      obtain ⟨hi6, hS⟩ := hS
      refine m_ald C hE 9 (by decide) (by decide) hi6 d_Mo_checkPerform_53 ?_
      obtain ⟨hs8, hS⟩ := hS
      refine m_callV (n := 2) (av := [.int 6, .int (σ.2.2.1 9 x1.toNatClampNeg)]) (rest := []) C hE (mc_Mo_wrong l D cs B dE mo ad _ _ _ hs8) km_Mo_237 kv_Mo_wrong kl_Mo_wrong kd_Mo_wrong ki_Mo ⟨rfl, by decide, by decide, by decide⟩ rfl ⟨rfl, rfl⟩ (by decide) (by decide) d_Mo_checkPerform_54 (Nat.le_of_ble_eq_true rfl) _ rfl (fun v1 σ1 hv => ?_)
      obtain ⟨rfl, rfl⟩ := hv
      rw [mbind_eq] at hF hS
      generalize F_Mo_wrong σ 6 (σ.2.2.1 9 x1.toNatClampNeg) = w7 at hF hS ⊢
      refine GW.eqs (st' := []) rfl ?_
      refine GW.subl [0, 1] rfl ?_
      exact w_Mo_checkPerform_j57 C hE hr hlocks n w7 x1 Fv hS hF
  · rw [if_pos hc1] at hF hS
    refine g_aload_n C d_Mo_checkPerform_4 rfl ?_
    refine g_aload_n C d_Mo_checkPerform_5 rfl ?_
    refine m_geta C hE 9 (by decide) (by decide) (by decide) kf_Mo_22 d_Mo_checkPerform_6 ?_
    refine g_iload_n C d_Mo_checkPerform_9 rfl ?_
    obtain ⟨hi9, hS⟩ := hS
    refine m_ald C hE 9 (by decide) (by decide) hi9 d_Mo_checkPerform_10 ?_
    obtain ⟨hs11, hS⟩ := hS
    refine m_callV (n := 1) (av := [.int (σ.2.2.1 9 x1.toNatClampNeg)]) (rest := []) C hE (mc_Mo_into l D cs B dE mo ad n _ _ hs11) km_Mo_223 kv_Mo_into kl_Mo_into kd_Mo_into ki_Mo ⟨rfl, by decide, by decide, by decide⟩ rfl ⟨rfl, rfl⟩ (by decide) (by decide) d_Mo_checkPerform_11 (Nat.le_of_ble_eq_true rfl) _ rfl (fun v1 σ1 hv => ?_)
    obtain ⟨rfl, rfl⟩ := hv
    rw [mbind_eq] at hF hS
    generalize F_Mo_into n σ (σ.2.2.1 9 x1.toNatClampNeg) = w10 at hF hS ⊢
    refine GW.eqs (st' := []) rfl ?_
    refine g_goto C 85 d_Mo_checkPerform_14 (by decide) ?_
    exact m_vret C hr hlocks d_Mo_checkPerform_85 (by rw [← hF]; exact ⟨rfl, rfl⟩)
def F_Mo_unhandled_5 : Nat → mSt → Int32 → Int32 → Int32 → mSt × Int32
  | 0, σ, _, _, _ => (σ, 0)
  | n + 1, σ, x1, x3, x4 => if (σ.2.2.1 15 x1.toNatClampNeg) ≤ x4 then ((σ, x3)) else (F_Mo_unhandled_5 n σ x1 (x3 &&& ((1 <<< ((σ.2.2.1 16 ((σ.2.2.1 14 x1.toNatClampNeg) + x4).toNatClampNeg) &&& 31)) ^^^ (-1))) (x4 + 1))
def S_Mo_unhandled_5 : Nat → mSt → Int32 → Int32 → Int32 → Prop
  | 0, _, _, _, _ => False
  | n + 1, σ, x1, x3, x4 => (vp_in x1 200) ∧ (if (σ.2.2.1 15 x1.toNatClampNeg) ≤ x4 then (True) else ((vp_in x1 200) ∧ ((vp_in ((σ.2.2.1 14 x1.toNatClampNeg) + x4) 40) ∧ (S_Mo_unhandled_5 n σ x1 (x3 &&& ((1 <<< ((σ.2.2.1 16 ((σ.2.2.1 14 x1.toNatClampNeg) + x4).toNatClampNeg) &&& 31)) ^^^ (-1))) (x4 + 1)))))
set_option maxRecDepth 100000 in
set_option maxHeartbeats 4000000 in
theorem w_Mo_unhandled_5 {p : Program} {l : Launch} {e : Env} {s : State} {m : MethodId} {args : Array Value} {below : List Frame} {meth : Method} {c : Code} {D : va_G} {cs : Nat → ClassId} {B : Nat} {dE : Nat × Nat} {mo : Nat} {ad : Nat → Nat} {M0 : gMem} {Q : State → Prop} (C : CallFix p m c c_Mo_unhandled 5 s args gT R_Mo) (hE : gEnv D gcl (gtys cs) gz B dE s) (n : Nat) (σ : mSt) (x1 : Int32) (x3 : Int32) (x4 : Int32) (Fv : mSt × Int32) (hS : S_Mo_unhandled_5 n σ x1 x3 x4) (hF : F_Mo_unhandled_5 n σ x1 x3 x4 = Fv) (hk : GW p l e ({ frames := 0, cells := 0, slots := 0, locals := 0 } : Room) s m args below meth c 5 (gA B) Q (mo_P D B cs mo ad M0 Fv.1) 0 0 43 [(0, .ref mo), (3, .int Fv.2)] []) : GW p l e ({ frames := 0, cells := 0, slots := 0, locals := 0 } : Room) s m args below meth c 5 (gA B) Q (mo_P D B cs mo ad M0 σ) 0 0 5 [(0, .ref mo), (1, .int x1), (3, .int x3), (4, .int x4)] [] := by
  induction n generalizing σ x1 x3 x4 Fv with
  | zero => exact hS.elim
  | succ n ih =>
    unfold F_Mo_unhandled_5 at hF
    unfold S_Mo_unhandled_5 at hS
    refine g_iload C d_Mo_unhandled_5 rfl ?_
    refine g_aload_n C d_Mo_unhandled_7 rfl ?_
    refine m_geta C hE 15 (by decide) (by decide) (by decide) kf_Mo_40 d_Mo_unhandled_8 ?_
    refine g_iload_n C d_Mo_unhandled_11 rfl ?_
    obtain ⟨hi3, hS⟩ := hS
    refine m_ald C hE 15 (by decide) (by decide) hi3 d_Mo_unhandled_12 ?_
    refine g_icmp_ge C 43 d_Mo_unhandled_13 (by decide) (fun hc4 => ?_) (fun hc4 => ?_)
    · rw [if_pos hc4] at hF hS
      refine GW.subl [0, 2] rfl ?_
      rw [← hF] at hk
      exact hk
    · rw [if_neg hc4] at hF hS
      refine g_iload_n C d_Mo_unhandled_16 rfl ?_
      refine g_iconst (v := 1) C d_Mo_unhandled_17 (by decide) ?_
      refine g_aload_n C d_Mo_unhandled_18 rfl ?_
      refine m_geta C hE 16 (by decide) (by decide) (by decide) kf_Mo_43 d_Mo_unhandled_19 ?_
      refine g_aload_n C d_Mo_unhandled_22 rfl ?_
      refine m_geta C hE 14 (by decide) (by decide) (by decide) kf_Mo_37 d_Mo_unhandled_23 ?_
      refine g_iload_n C d_Mo_unhandled_26 rfl ?_
      obtain ⟨hi5, hS⟩ := hS
      refine m_ald C hE 14 (by decide) (by decide) hi5 d_Mo_unhandled_27 ?_
      refine g_iload C d_Mo_unhandled_28 rfl ?_
      refine g_iadd C d_Mo_unhandled_30 ?_
      obtain ⟨hi6, hS⟩ := hS
      refine m_ald C hE 16 (by decide) (by decide) hi6 d_Mo_unhandled_31 ?_
      refine g_ishl C d_Mo_unhandled_32 ?_
      refine g_iconst (v := (-1)) C d_Mo_unhandled_33 (by decide) ?_
      refine g_ixor C d_Mo_unhandled_34 ?_
      refine g_iand C d_Mo_unhandled_35 ?_
      refine g_istore_n (lv' := [(3, .int (x3 &&& ((1 <<< ((σ.2.2.1 16 ((σ.2.2.1 14 x1.toNatClampNeg) + x4).toNatClampNeg) &&& 31)) ^^^ (-1)))), (0, .ref mo), (1, .int x1), (4, .int x4)]) C d_Mo_unhandled_36 (by decide) rfl ?_
      refine g_iinc (v := x4 + 1) (lv' := [(4, .int (x4 + 1)), (3, .int (x3 &&& ((1 <<< ((σ.2.2.1 16 ((σ.2.2.1 14 x1.toNatClampNeg) + x4).toNatClampNeg) &&& 31)) ^^^ (-1)))), (0, .ref mo), (1, .int x1)]) C d_Mo_unhandled_37 rfl rfl (by decide) rfl ?_
      refine g_goto C 5 d_Mo_unhandled_40 (by decide) ?_
      refine GW.subl [2, 3, 1, 0] rfl ?_
      exact ih σ x1 (x3 &&& ((1 <<< ((σ.2.2.1 16 ((σ.2.2.1 14 x1.toNatClampNeg) + x4).toNatClampNeg) &&& 31)) ^^^ (-1))) (x4 + 1) Fv hS hF hk
def F_Mo_unhandled (n : Nat) (σ : mSt) (x1 : Int32) (x2 : Int32) : Int32 × mSt := mbind (F_Mo_unhandled_5 n σ x1 x2 0) (fun w1 => (w1.2, w1.1))
def S_Mo_unhandled (n : Nat) (σ : mSt) (x1 : Int32) (x2 : Int32) : Prop := (S_Mo_unhandled_5 n σ x1 x2 0) ∧ (mbind (F_Mo_unhandled_5 n σ x1 x2 0) (fun w1 => True))
set_option maxRecDepth 100000 in
set_option maxHeartbeats 4000000 in
theorem mc_Mo_unhandled (l : Launch) (D : va_G) (cs : Nat → ClassId) (B : Nat) (dE : Nat × Nat) (mo : Nat) (ad : Nat → Nat) (n : Nat) (σ : mSt) (x1 : Int32) (x2 : Int32) (hS : S_Mo_unhandled n σ x1 x2) : mMet l y_Mo_unhandled (Cond.code y_Mo_unhandled c_Mo_unhandled 5 (some .int)) ({ frames := 0, cells := 0, slots := 0, locals := 0 } : Room) D cs B dE mo ad [.ref mo, .int x1, .int x2] σ (fun r σ' => r = some (.int (F_Mo_unhandled n σ x1 x2).1) ∧ σ' = (F_Mo_unhandled n σ x1 x2).2) := by
  refine mMet.ofW (by decide) rfl (Nat.le_of_ble_eq_true rfl) (lv0 := [(0, .ref mo), (1, .int x1), (2, .int x2)]) rfl ?_
  intro p e s m args below meth c M0 C hE hr hlocks
  generalize hF : F_Mo_unhandled n σ x1 x2 = Fv
  unfold F_Mo_unhandled at hF
  unfold S_Mo_unhandled at hS
  refine g_iload_n C d_Mo_unhandled_0 rfl ?_
  refine g_istore_n (lv' := [(3, .int x2), (0, .ref mo), (1, .int x1), (2, .int x2)]) C d_Mo_unhandled_1 (by decide) rfl ?_
  refine g_iconst (v := 0) C d_Mo_unhandled_2 (by decide) ?_
  refine g_istore (lv' := [(4, .int 0), (3, .int x2), (0, .ref mo), (1, .int x1), (2, .int x2)]) C d_Mo_unhandled_3 (by decide) rfl ?_
  obtain ⟨hs2, hS⟩ := hS
  rw [mbind_eq] at hF hS
  refine GW.subl [2, 3, 1, 0] rfl ?_
  refine w_Mo_unhandled_5 C hE n σ x1 x2 0 _ hs2 rfl ?_
  generalize F_Mo_unhandled_5 n σ x1 x2 0 = w1 at hF hS ⊢
  refine g_iload_n C d_Mo_unhandled_43 rfl ?_
  exact m_iret C hr hlocks d_Mo_unhandled_44 (by rw [← hF]; exact ⟨rfl, rfl⟩)
def F_Mo_beginClause_18 : Nat → mSt → Int32 → Int32 → Int32 → Int32 → mSt × Int32 × Int32 × Int32
  | 0, σ, _, _, _, _ => (σ, 0, 0, 0)
  | n + 1, σ, x1, x2, x4, x5 => if x4 ≤ x5 then ((σ, x1, x2, x4)) else (if (σ.2.2.1 16 x5.toNatClampNeg) = (σ.2.2.1 16 x4.toNatClampNeg) then (mbind (F_Mo_wrong σ 8 (σ.2.2.1 19 x4.toNatClampNeg)) (fun w24 => F_Mo_beginClause_18 n w24 x1 x2 x4 (x5 + 1))) else (F_Mo_beginClause_18 n σ x1 x2 x4 (x5 + 1)))
def S_Mo_beginClause_18 : Nat → mSt → Int32 → Int32 → Int32 → Int32 → Prop
  | 0, _, _, _, _, _ => False
  | n + 1, σ, x1, x2, x4, x5 => if x4 ≤ x5 then (True) else ((vp_in x5 40) ∧ ((vp_in x4 40) ∧ (if (σ.2.2.1 16 x5.toNatClampNeg) = (σ.2.2.1 16 x4.toNatClampNeg) then ((vp_in x4 40) ∧ ((S_Mo_wrong σ 8 (σ.2.2.1 19 x4.toNatClampNeg)) ∧ (mbind (F_Mo_wrong σ 8 (σ.2.2.1 19 x4.toNatClampNeg)) (fun w24 => S_Mo_beginClause_18 n w24 x1 x2 x4 (x5 + 1))))) else (S_Mo_beginClause_18 n σ x1 x2 x4 (x5 + 1)))))
set_option maxRecDepth 100000 in
set_option maxHeartbeats 4000000 in
theorem w_Mo_beginClause_18 {p : Program} {l : Launch} {e : Env} {s : State} {m : MethodId} {args : Array Value} {below : List Frame} {meth : Method} {c : Code} {D : va_G} {cs : Nat → ClassId} {B : Nat} {dE : Nat × Nat} {mo : Nat} {ad : Nat → Nat} {M0 : gMem} {Q : State → Prop} (C : CallFix p m c c_Mo_beginClause 7 s args gT R_Mo) (hE : gEnv D gcl (gtys cs) gz B dE s) (n : Nat) (σ : mSt) (x1 : Int32) (x2 : Int32) (x4 : Int32) (x5 : Int32) (Fv : mSt × Int32 × Int32 × Int32) (hS : S_Mo_beginClause_18 n σ x1 x2 x4 x5) (hF : F_Mo_beginClause_18 n σ x1 x2 x4 x5 = Fv) (hk : GW p l e ({ frames := 2, cells := 0, slots := 0, locals := 47 } : Room) s m args below meth c 7 (gA B) Q (mo_P D B cs mo ad M0 Fv.1) 0 0 61 [(0, .ref mo), (1, .int Fv.2.1), (2, .int Fv.2.2.1), (4, .int Fv.2.2.2)] []) : GW p l e ({ frames := 2, cells := 0, slots := 0, locals := 47 } : Room) s m args below meth c 7 (gA B) Q (mo_P D B cs mo ad M0 σ) 0 0 18 [(0, .ref mo), (1, .int x1), (2, .int x2), (4, .int x4), (5, .int x5)] [] := by
  induction n generalizing σ x1 x2 x4 x5 Fv with
  | zero => exact hS.elim
  | succ n ih =>
    unfold F_Mo_beginClause_18 at hF
    unfold S_Mo_beginClause_18 at hS
    refine g_iload C d_Mo_beginClause_18 rfl ?_
    refine g_iload C d_Mo_beginClause_20 rfl ?_
    refine g_icmp_ge C 61 d_Mo_beginClause_22 (by decide) (fun hc19 => ?_) (fun hc19 => ?_)
    · rw [if_pos hc19] at hF hS
      refine GW.subl [0, 1, 2, 3] rfl ?_
      rw [← hF] at hk
      exact hk
    · rw [if_neg hc19] at hF hS
      refine g_aload_n C d_Mo_beginClause_25 rfl ?_
      refine m_geta C hE 16 (by decide) (by decide) (by decide) kf_Mo_43 d_Mo_beginClause_26 ?_
      refine g_iload C d_Mo_beginClause_29 rfl ?_
      obtain ⟨hi20, hS⟩ := hS
      refine m_ald C hE 16 (by decide) (by decide) hi20 d_Mo_beginClause_31 ?_
      refine g_aload_n C d_Mo_beginClause_32 rfl ?_
      refine m_geta C hE 16 (by decide) (by decide) (by decide) kf_Mo_43 d_Mo_beginClause_33 ?_
      refine g_iload C d_Mo_beginClause_36 rfl ?_
      obtain ⟨hi21, hS⟩ := hS
      refine m_ald C hE 16 (by decide) (by decide) hi21 d_Mo_beginClause_38 ?_
      refine g_icmp_ne C 55 d_Mo_beginClause_39 (by decide) (fun hc22 => ?_) (fun hc22 => ?_)
      · rw [if_neg hc22] at hF hS
        refine g_iinc (v := x5 + 1) (lv' := [(5, .int (x5 + 1)), (0, .ref mo), (1, .int x1), (2, .int x2), (4, .int x4)]) C d_Mo_beginClause_55 rfl rfl (by decide) rfl ?_
        refine g_goto C 18 d_Mo_beginClause_58 (by decide) ?_
        refine GW.subl [1, 2, 3, 4, 0] rfl ?_
        exact ih σ x1 x2 x4 (x5 + 1) Fv hS hF hk
      · rw [if_pos hc22] at hF hS
        refine g_aload_n C d_Mo_beginClause_42 rfl ?_
        refine g_bipush (v := 8) C d_Mo_beginClause_43 (by decide) ?_
        refine g_aload_n C d_Mo_beginClause_45 rfl ?_
        refine m_geta C hE 19 (by decide) (by decide) (by decide) kf_Mo_52 d_Mo_beginClause_46 ?_
        refine g_iload C d_Mo_beginClause_49 rfl ?_
        obtain ⟨hi23, hS⟩ := hS
        refine m_ald C hE 19 (by decide) (by decide) hi23 d_Mo_beginClause_51 ?_
        obtain ⟨hs25, hS⟩ := hS
        refine m_callV (n := 2) (av := [.int 8, .int (σ.2.2.1 19 x4.toNatClampNeg)]) (rest := []) C hE (mc_Mo_wrong l D cs B dE mo ad _ _ _ hs25) km_Mo_237 kv_Mo_wrong kl_Mo_wrong kd_Mo_wrong ki_Mo ⟨rfl, by decide, by decide, by decide⟩ rfl ⟨rfl, rfl⟩ (by decide) (by decide) d_Mo_beginClause_52 (Nat.le_of_ble_eq_true rfl) _ rfl (fun v1 σ1 hv => ?_)
        obtain ⟨rfl, rfl⟩ := hv
        rw [mbind_eq] at hF hS
        generalize F_Mo_wrong σ 8 (σ.2.2.1 19 x4.toNatClampNeg) = w24 at hF hS ⊢
        refine GW.eqs (st' := []) rfl ?_
        refine g_iinc (v := x5 + 1) (lv' := [(5, .int (x5 + 1)), (0, .ref mo), (1, .int x1), (2, .int x2), (4, .int x4)]) C d_Mo_beginClause_55 rfl rfl (by decide) rfl ?_
        refine g_goto C 18 d_Mo_beginClause_58 (by decide) ?_
        refine GW.subl [1, 2, 3, 4, 0] rfl ?_
        exact ih w24 x1 x2 x4 (x5 + 1) Fv hS hF hk
def F_Mo_beginClause (n : Nat) (σ : mSt) (x1 : Int32) (x2 : Int32) (x3 : Int32) : mSt := mbind (F_Mo_beginClause_18 n σ x1 x2 ((σ.2.2.1 14 x2.toNatClampNeg) + x3) (σ.2.2.1 14 x2.toNatClampNeg)) (fun w3 => if (w3.1.1 34) = 0 then (mbind (F_Mo_typeOf n w3.1 (w3.1.2.2.1 25 (w3.1.2.2.1 16 w3.2.2.2.toNatClampNeg).toNatClampNeg) (w3.1.2.2.1 28 w3.2.1.toNatClampNeg) (w3.1.2.2.1 7 w3.2.2.1.toNatClampNeg)) (fun w10 => mbind (F_Mo_intoWith n w10.2 (w10.2.2.2.1 19 w3.2.2.2.toNatClampNeg) (w10.2.2.2.1 17 w3.2.2.2.toNatClampNeg) (w10.2.2.2.1 24 (w3.1.2.2.1 16 w3.2.2.2.toNatClampNeg).toNatClampNeg)) (fun w15 => mo_ai w15 30 ((10 * ((w15.1 31) - 1)) + (w15.2.2.1 18 w3.2.2.2.toNatClampNeg)).toNatClampNeg w10.1))) else (w3.1))
def S_Mo_beginClause (n : Nat) (σ : mSt) (x1 : Int32) (x2 : Int32) (x3 : Int32) : Prop := (vp_in x2 200) ∧ ((vp_in x2 200) ∧ ((S_Mo_beginClause_18 n σ x1 x2 ((σ.2.2.1 14 x2.toNatClampNeg) + x3) (σ.2.2.1 14 x2.toNatClampNeg)) ∧ (mbind (F_Mo_beginClause_18 n σ x1 x2 ((σ.2.2.1 14 x2.toNatClampNeg) + x3) (σ.2.2.1 14 x2.toNatClampNeg)) (fun w3 => if (w3.1.1 34) = 0 then ((vp_in w3.2.2.2 40) ∧ ((vp_in (w3.1.2.2.1 16 w3.2.2.2.toNatClampNeg) 8) ∧ ((vp_in w3.2.1 45) ∧ ((vp_in w3.2.2.1 200) ∧ ((S_Mo_typeOf n w3.1 (w3.1.2.2.1 25 (w3.1.2.2.1 16 w3.2.2.2.toNatClampNeg).toNatClampNeg) (w3.1.2.2.1 28 w3.2.1.toNatClampNeg) (w3.1.2.2.1 7 w3.2.2.1.toNatClampNeg)) ∧ (mbind (F_Mo_typeOf n w3.1 (w3.1.2.2.1 25 (w3.1.2.2.1 16 w3.2.2.2.toNatClampNeg).toNatClampNeg) (w3.1.2.2.1 28 w3.2.1.toNatClampNeg) (w3.1.2.2.1 7 w3.2.2.1.toNatClampNeg)) (fun w10 => (vp_in w3.2.2.2 40) ∧ ((vp_in w3.2.2.2 40) ∧ ((vp_in (w3.1.2.2.1 16 w3.2.2.2.toNatClampNeg) 8) ∧ ((S_Mo_intoWith n w10.2 (w10.2.2.2.1 19 w3.2.2.2.toNatClampNeg) (w10.2.2.2.1 17 w3.2.2.2.toNatClampNeg) (w10.2.2.2.1 24 (w3.1.2.2.1 16 w3.2.2.2.toNatClampNeg).toNatClampNeg)) ∧ (mbind (F_Mo_intoWith n w10.2 (w10.2.2.2.1 19 w3.2.2.2.toNatClampNeg) (w10.2.2.2.1 17 w3.2.2.2.toNatClampNeg) (w10.2.2.2.1 24 (w3.1.2.2.1 16 w3.2.2.2.toNatClampNeg).toNatClampNeg)) (fun w15 => (vp_in w3.2.2.2 40) ∧ ((vp_in ((10 * ((w15.1 31) - 1)) + (w15.2.2.1 18 w3.2.2.2.toNatClampNeg)) 450) ∧ (True)))))))))))))) else (True)))))
set_option maxRecDepth 100000 in
set_option maxHeartbeats 4000000 in
theorem mc_Mo_beginClause (l : Launch) (D : va_G) (cs : Nat → ClassId) (B : Nat) (dE : Nat × Nat) (mo : Nat) (ad : Nat → Nat) (n : Nat) (σ : mSt) (x1 : Int32) (x2 : Int32) (x3 : Int32) (hS : S_Mo_beginClause n σ x1 x2 x3) : mMet l y_Mo_beginClause (Cond.code y_Mo_beginClause c_Mo_beginClause 7 none) ({ frames := 2, cells := 0, slots := 0, locals := 47 } : Room) D cs B dE mo ad [.ref mo, .int x1, .int x2, .int x3] σ (fun r σ' => r = none ∧ σ' = F_Mo_beginClause n σ x1 x2 x3) := by
  refine mMet.ofW (by decide) rfl (Nat.le_of_ble_eq_true rfl) (lv0 := [(0, .ref mo), (1, .int x1), (2, .int x2), (3, .int x3)]) rfl ?_
  intro p e s m args below meth c M0 C hE hr hlocks
  generalize hF : F_Mo_beginClause n σ x1 x2 x3 = Fv
  unfold F_Mo_beginClause at hF
  unfold S_Mo_beginClause at hS
  refine g_aload_n C d_Mo_beginClause_0 rfl ?_
  refine m_geta C hE 14 (by decide) (by decide) (by decide) kf_Mo_37 d_Mo_beginClause_1 ?_
  refine g_iload_n C d_Mo_beginClause_4 rfl ?_
  obtain ⟨hi1, hS⟩ := hS
  refine m_ald C hE 14 (by decide) (by decide) hi1 d_Mo_beginClause_5 ?_
  refine g_iload_n C d_Mo_beginClause_6 rfl ?_
  refine g_iadd C d_Mo_beginClause_7 ?_
  refine g_istore (lv' := [(4, .int ((σ.2.2.1 14 x2.toNatClampNeg) + x3)), (0, .ref mo), (1, .int x1), (2, .int x2), (3, .int x3)]) C d_Mo_beginClause_8 (by decide) rfl ?_
  refine g_aload_n C d_Mo_beginClause_10 rfl ?_
  refine m_geta C hE 14 (by decide) (by decide) (by decide) kf_Mo_37 d_Mo_beginClause_11 ?_
  refine g_iload_n C d_Mo_beginClause_14 rfl ?_
  obtain ⟨hi2, hS⟩ := hS
  refine m_ald C hE 14 (by decide) (by decide) hi2 d_Mo_beginClause_15 ?_
  refine g_istore (lv' := [(5, .int (σ.2.2.1 14 x2.toNatClampNeg)), (4, .int ((σ.2.2.1 14 x2.toNatClampNeg) + x3)), (0, .ref mo), (1, .int x1), (2, .int x2), (3, .int x3)]) C d_Mo_beginClause_16 (by decide) rfl ?_
  obtain ⟨hs4, hS⟩ := hS
  rw [mbind_eq] at hF hS
  refine GW.subl [2, 3, 4, 1, 0] rfl ?_
  refine w_Mo_beginClause_18 C hE n σ x1 x2 ((σ.2.2.1 14 x2.toNatClampNeg) + x3) (σ.2.2.1 14 x2.toNatClampNeg) _ hs4 rfl ?_
  generalize F_Mo_beginClause_18 n σ x1 x2 ((σ.2.2.1 14 x2.toNatClampNeg) + x3) (σ.2.2.1 14 x2.toNatClampNeg) = w3 at hF hS ⊢
  refine g_aload_n C d_Mo_beginClause_61 rfl ?_
  refine m_geti C hE 34 (by decide) (by decide) kf_Mo_164 d_Mo_beginClause_62 ?_
  refine g_if_eq C 69 d_Mo_beginClause_65 (by decide) (fun hc5 => ?_) (fun hc5 => ?_)
  · rw [if_pos hc5] at hF hS
    refine g_aload_n C d_Mo_beginClause_69 rfl ?_
    refine m_geta C hE 16 (by decide) (by decide) (by decide) kf_Mo_43 d_Mo_beginClause_70 ?_
    refine g_iload C d_Mo_beginClause_73 rfl ?_
    obtain ⟨hi6, hS⟩ := hS
    refine m_ald C hE 16 (by decide) (by decide) hi6 d_Mo_beginClause_75 ?_
    refine g_istore (lv' := [(5, .int (w3.1.2.2.1 16 w3.2.2.2.toNatClampNeg)), (0, .ref mo), (1, .int w3.2.1), (2, .int w3.2.2.1), (4, .int w3.2.2.2)]) C d_Mo_beginClause_76 (by decide) rfl ?_
    refine g_aload_n C d_Mo_beginClause_78 rfl ?_
    refine g_aload_n C d_Mo_beginClause_79 rfl ?_
    refine m_geta C hE 25 (by decide) (by decide) (by decide) kf_Mo_72 d_Mo_beginClause_80 ?_
    refine g_iload C d_Mo_beginClause_83 rfl ?_
    obtain ⟨hi7, hS⟩ := hS
    refine m_ald C hE 25 (by decide) (by decide) hi7 d_Mo_beginClause_85 ?_
    refine g_aload_n C d_Mo_beginClause_86 rfl ?_
    refine m_geta C hE 28 (by decide) (by decide) (by decide) kf_Mo_81 d_Mo_beginClause_87 ?_
    refine g_iload_n C d_Mo_beginClause_90 rfl ?_
    obtain ⟨hi8, hS⟩ := hS
    refine m_ald C hE 28 (by decide) (by decide) hi8 d_Mo_beginClause_91 ?_
    refine g_aload_n C d_Mo_beginClause_92 rfl ?_
    refine m_geta C hE 7 (by decide) (by decide) (by decide) kf_Mo_16 d_Mo_beginClause_93 ?_
    refine g_iload_n C d_Mo_beginClause_96 rfl ?_
    obtain ⟨hi9, hS⟩ := hS
    refine m_ald C hE 7 (by decide) (by decide) hi9 d_Mo_beginClause_97 ?_
    obtain ⟨hs11, hS⟩ := hS
    refine m_callV (n := 3) (av := [.int (w3.1.2.2.1 25 (w3.1.2.2.1 16 w3.2.2.2.toNatClampNeg).toNatClampNeg), .int (w3.1.2.2.1 28 w3.2.1.toNatClampNeg), .int (w3.1.2.2.1 7 w3.2.2.1.toNatClampNeg)]) (rest := []) C hE (mc_Mo_typeOf l D cs B dE mo ad n _ _ _ _ hs11) km_Mo_198 kv_Mo_typeOf kl_Mo_typeOf kd_Mo_typeOf ki_Mo ⟨rfl, by decide, by decide, by decide⟩ rfl ⟨rfl, rfl⟩ (by decide) (by decide) d_Mo_beginClause_98 (Nat.le_of_ble_eq_true rfl) _ rfl (fun v1 σ1 hv => ?_)
    obtain ⟨rfl, rfl⟩ := hv
    rw [mbind_eq] at hF hS
    generalize F_Mo_typeOf n w3.1 (w3.1.2.2.1 25 (w3.1.2.2.1 16 w3.2.2.2.toNatClampNeg).toNatClampNeg) (w3.1.2.2.1 28 w3.2.1.toNatClampNeg) (w3.1.2.2.1 7 w3.2.2.1.toNatClampNeg) = w10 at hF hS ⊢
    refine GW.eqs (st' := [.int w10.1]) rfl ?_
    refine g_istore (lv' := [(6, .int w10.1), (5, .int (w3.1.2.2.1 16 w3.2.2.2.toNatClampNeg)), (0, .ref mo), (1, .int w3.2.1), (2, .int w3.2.2.1), (4, .int w3.2.2.2)]) C d_Mo_beginClause_101 (by decide) rfl ?_
    refine g_aload_n C d_Mo_beginClause_103 rfl ?_
    refine g_aload_n C d_Mo_beginClause_104 rfl ?_
    refine m_geta C hE 19 (by decide) (by decide) (by decide) kf_Mo_52 d_Mo_beginClause_105 ?_
    refine g_iload C d_Mo_beginClause_108 rfl ?_
    obtain ⟨hi12, hS⟩ := hS
    refine m_ald C hE 19 (by decide) (by decide) hi12 d_Mo_beginClause_110 ?_
    refine g_aload_n C d_Mo_beginClause_111 rfl ?_
    refine m_geta C hE 17 (by decide) (by decide) (by decide) kf_Mo_46 d_Mo_beginClause_112 ?_
    refine g_iload C d_Mo_beginClause_115 rfl ?_
    obtain ⟨hi13, hS⟩ := hS
    refine m_ald C hE 17 (by decide) (by decide) hi13 d_Mo_beginClause_117 ?_
    refine g_aload_n C d_Mo_beginClause_118 rfl ?_
    refine m_geta C hE 24 (by decide) (by decide) (by decide) kf_Mo_69 d_Mo_beginClause_119 ?_
    refine g_iload C d_Mo_beginClause_122 rfl ?_
    obtain ⟨hi14, hS⟩ := hS
    refine m_ald C hE 24 (by decide) (by decide) hi14 d_Mo_beginClause_124 ?_
    obtain ⟨hs16, hS⟩ := hS
    refine m_callV (n := 3) (av := [.int (w10.2.2.2.1 19 w3.2.2.2.toNatClampNeg), .int (w10.2.2.2.1 17 w3.2.2.2.toNatClampNeg), .int (w10.2.2.2.1 24 (w3.1.2.2.1 16 w3.2.2.2.toNatClampNeg).toNatClampNeg)]) (rest := []) C hE (mc_Mo_intoWith l D cs B dE mo ad n _ _ _ _ hs16) km_Mo_233 kv_Mo_intoWith kl_Mo_intoWith kd_Mo_intoWith ki_Mo ⟨rfl, by decide, by decide, by decide⟩ rfl ⟨rfl, rfl⟩ (by decide) (by decide) d_Mo_beginClause_125 (Nat.le_of_ble_eq_true rfl) _ rfl (fun v1 σ1 hv => ?_)
    obtain ⟨rfl, rfl⟩ := hv
    rw [mbind_eq] at hF hS
    generalize F_Mo_intoWith n w10.2 (w10.2.2.2.1 19 w3.2.2.2.toNatClampNeg) (w10.2.2.2.1 17 w3.2.2.2.toNatClampNeg) (w10.2.2.2.1 24 (w3.1.2.2.1 16 w3.2.2.2.toNatClampNeg).toNatClampNeg) = w15 at hF hS ⊢
    refine GW.eqs (st' := []) rfl ?_
    refine g_aload_n C d_Mo_beginClause_128 rfl ?_
    refine m_geta C hE 30 (by decide) (by decide) (by decide) kf_Mo_87 d_Mo_beginClause_129 ?_
    refine g_bipush (v := 10) C d_Mo_beginClause_132 (by decide) ?_
    refine g_aload_n C d_Mo_beginClause_134 rfl ?_
    refine m_geti C hE 31 (by decide) (by decide) kf_Mo_220 d_Mo_beginClause_135 ?_
    refine g_iconst (v := 1) C d_Mo_beginClause_138 (by decide) ?_
    refine g_isub C d_Mo_beginClause_139 ?_
    refine g_imul C d_Mo_beginClause_140 ?_
    refine g_aload_n C d_Mo_beginClause_141 rfl ?_
    refine m_geta C hE 18 (by decide) (by decide) (by decide) kf_Mo_49 d_Mo_beginClause_142 ?_
    refine g_iload C d_Mo_beginClause_145 rfl ?_
    obtain ⟨hi17, hS⟩ := hS
    refine m_ald C hE 18 (by decide) (by decide) hi17 d_Mo_beginClause_147 ?_
    refine g_iadd C d_Mo_beginClause_148 ?_
    refine g_iload C d_Mo_beginClause_149 rfl ?_
    obtain ⟨hi18, hS⟩ := hS
    refine m_ast C hE 30 (by decide) (by decide) hi18 d_Mo_beginClause_151 ?_
    exact m_vret C hr hlocks d_Mo_beginClause_152 (by rw [← hF]; exact ⟨rfl, rfl⟩)
  · rw [if_neg hc5] at hF hS
    exact m_vret C hr hlocks d_Mo_beginClause_68 (by rw [← hF]; exact ⟨rfl, rfl⟩)
def F_Mo_checkHandle_j227 (n : Nat) (σ : mSt) (x1 : Int32) (x4 : Int32) : mSt := mbind (F_Mo_ends σ (σ.2.2.1 28 x1.toNatClampNeg) x4) (fun w40 => w40)
def S_Mo_checkHandle_j227 (n : Nat) (σ : mSt) (x1 : Int32) (x4 : Int32) : Prop := (vp_in x1 45) ∧ ((S_Mo_ends σ (σ.2.2.1 28 x1.toNatClampNeg) x4) ∧ (mbind (F_Mo_ends σ (σ.2.2.1 28 x1.toNatClampNeg) x4) (fun w40 => True)))
set_option maxRecDepth 100000 in
set_option maxHeartbeats 4000000 in
theorem w_Mo_checkHandle_j227 {p : Program} {l : Launch} {e : Env} {s : State} {m : MethodId} {args : Array Value} {below : List Frame} {meth : Method} {c : Code} {D : va_G} {cs : Nat → ClassId} {B : Nat} {dE : Nat × Nat} {mo : Nat} {ad : Nat → Nat} {M0 : gMem} (C : CallFix p m c c_Mo_checkHandle 6 s args gT R_Mo) (hE : gEnv D gcl (gtys cs) gz B dE s) (hr : meth.sig.returnType = none) (hlocks : meth.locks = false) (n : Nat) (σ : mSt) (x1 : Int32) (x4 : Int32) (Fv : mSt) (hS : S_Mo_checkHandle_j227 n σ x1 x4) (hF : F_Mo_checkHandle_j227 n σ x1 x4 = Fv) : GW p l e ({ frames := 3, cells := 0, slots := 0, locals := 73 } : Room) s m args below meth c 6 (gA B) (mQ below D cs B mo ad M0 (fun r σ' => r = none ∧ σ' = Fv) args s) (mo_P D B cs mo ad M0 σ) 0 0 227 [(0, .ref mo), (1, .int x1), (4, .int x4)] [] := by
  unfold F_Mo_checkHandle_j227 at hF
  unfold S_Mo_checkHandle_j227 at hS
  refine g_aload_n C d_Mo_checkHandle_227 rfl ?_
  refine g_aload_n C d_Mo_checkHandle_228 rfl ?_
  refine m_geta C hE 28 (by decide) (by decide) (by decide) kf_Mo_81 d_Mo_checkHandle_229 ?_
  refine g_iload_n C d_Mo_checkHandle_232 rfl ?_
  obtain ⟨hi39, hS⟩ := hS
  refine m_ald C hE 28 (by decide) (by decide) hi39 d_Mo_checkHandle_233 ?_
  refine g_iload C d_Mo_checkHandle_234 rfl ?_
  obtain ⟨hs41, hS⟩ := hS
  refine m_callV (n := 2) (av := [.int (σ.2.2.1 28 x1.toNatClampNeg), .int x4]) (rest := []) C hE (mc_Mo_ends l D cs B dE mo ad _ _ _ hs41) km_Mo_240 kv_Mo_ends kl_Mo_ends kd_Mo_ends ki_Mo ⟨rfl, by decide, by decide, by decide⟩ rfl ⟨rfl, rfl⟩ (by decide) (by decide) d_Mo_checkHandle_236 (Nat.le_of_ble_eq_true rfl) _ rfl (fun v1 σ1 hv => ?_)
  obtain ⟨rfl, rfl⟩ := hv
  rw [mbind_eq] at hF hS
  generalize F_Mo_ends σ (σ.2.2.1 28 x1.toNatClampNeg) x4 = w40 at hF hS ⊢
  refine GW.eqs (st' := []) rfl ?_
  exact m_vret C hr hlocks d_Mo_checkHandle_239 (by rw [← hF]; exact ⟨rfl, rfl⟩)
def F_Mo_checkHandle_j169 (n : Nat) (σ : mSt) (x1 : Int32) (x2 : Int32) (x3 : Int32) (x4 : Int32) : mSt := if (σ.2.2.1 15 x2.toNatClampNeg) ≤ (x3 - 2) then (mbind (F_Mo_unhandled n σ x2 (σ.2.2.1 29 x1.toNatClampNeg)) (fun w28 => if (w28.1 &&& (x4 ^^^ (-1))) = 0 then (F_Mo_checkHandle_j227 n w28.2 x1 x4) else (mbind (F_Mo_wrong w28.2 7 (w28.2.2.2.1 9 x2.toNatClampNeg)) (fun w32 => F_Mo_checkHandle_j227 n w32 x1 x4)))) else (mbind (F_Mo_beginClause n σ x1 x2 (x3 - 2)) (fun w34 => w34))
def S_Mo_checkHandle_j169 (n : Nat) (σ : mSt) (x1 : Int32) (x2 : Int32) (x3 : Int32) (x4 : Int32) : Prop := (vp_in x2 200) ∧ (if (σ.2.2.1 15 x2.toNatClampNeg) ≤ (x3 - 2) then ((vp_in x1 45) ∧ ((S_Mo_unhandled n σ x2 (σ.2.2.1 29 x1.toNatClampNeg)) ∧ (mbind (F_Mo_unhandled n σ x2 (σ.2.2.1 29 x1.toNatClampNeg)) (fun w28 => if (w28.1 &&& (x4 ^^^ (-1))) = 0 then (S_Mo_checkHandle_j227 n w28.2 x1 x4) else ((vp_in x2 200) ∧ ((S_Mo_wrong w28.2 7 (w28.2.2.2.1 9 x2.toNatClampNeg)) ∧ (mbind (F_Mo_wrong w28.2 7 (w28.2.2.2.1 9 x2.toNatClampNeg)) (fun w32 => S_Mo_checkHandle_j227 n w32 x1 x4)))))))) else ((S_Mo_beginClause n σ x1 x2 (x3 - 2)) ∧ (mbind (F_Mo_beginClause n σ x1 x2 (x3 - 2)) (fun w34 => True))))
set_option maxRecDepth 100000 in
set_option maxHeartbeats 4000000 in
theorem w_Mo_checkHandle_j169 {p : Program} {l : Launch} {e : Env} {s : State} {m : MethodId} {args : Array Value} {below : List Frame} {meth : Method} {c : Code} {D : va_G} {cs : Nat → ClassId} {B : Nat} {dE : Nat × Nat} {mo : Nat} {ad : Nat → Nat} {M0 : gMem} (C : CallFix p m c c_Mo_checkHandle 6 s args gT R_Mo) (hE : gEnv D gcl (gtys cs) gz B dE s) (hr : meth.sig.returnType = none) (hlocks : meth.locks = false) (n : Nat) (σ : mSt) (x1 : Int32) (x2 : Int32) (x3 : Int32) (x4 : Int32) (Fv : mSt) (hS : S_Mo_checkHandle_j169 n σ x1 x2 x3 x4) (hF : F_Mo_checkHandle_j169 n σ x1 x2 x3 x4 = Fv) : GW p l e ({ frames := 3, cells := 0, slots := 0, locals := 73 } : Room) s m args below meth c 6 (gA B) (mQ below D cs B mo ad M0 (fun r σ' => r = none ∧ σ' = Fv) args s) (mo_P D B cs mo ad M0 σ) 0 0 169 [(0, .ref mo), (1, .int x1), (2, .int x2), (3, .int x3), (4, .int x4)] [] := by
  unfold F_Mo_checkHandle_j169 at hF
  unfold S_Mo_checkHandle_j169 at hS
  refine g_iload_n C d_Mo_checkHandle_169 rfl ?_
  refine g_iconst (v := 2) C d_Mo_checkHandle_170 (by decide) ?_
  refine g_isub C d_Mo_checkHandle_171 ?_
  refine g_istore (lv' := [(5, .int (x3 - 2)), (0, .ref mo), (1, .int x1), (2, .int x2), (3, .int x3), (4, .int x4)]) C d_Mo_checkHandle_172 (by decide) rfl ?_
  refine g_iload C d_Mo_checkHandle_174 rfl ?_
  refine g_aload_n C d_Mo_checkHandle_176 rfl ?_
  refine m_geta C hE 15 (by decide) (by decide) (by decide) kf_Mo_40 d_Mo_checkHandle_177 ?_
  refine g_iload_n C d_Mo_checkHandle_180 rfl ?_
  obtain ⟨hi25, hS⟩ := hS
  refine m_ald C hE 15 (by decide) (by decide) hi25 d_Mo_checkHandle_181 ?_
  refine g_icmp_ge C 196 d_Mo_checkHandle_182 (by decide) (fun hc26 => ?_) (fun hc26 => ?_)
  · rw [if_pos hc26] at hF hS
    refine g_aload_n C d_Mo_checkHandle_196 rfl ?_
    refine g_iload_n C d_Mo_checkHandle_197 rfl ?_
    refine g_aload_n C d_Mo_checkHandle_198 rfl ?_
    refine m_geta C hE 29 (by decide) (by decide) (by decide) kf_Mo_84 d_Mo_checkHandle_199 ?_
    refine g_iload_n C d_Mo_checkHandle_202 rfl ?_
    obtain ⟨hi27, hS⟩ := hS
    refine m_ald C hE 29 (by decide) (by decide) hi27 d_Mo_checkHandle_203 ?_
    obtain ⟨hs29, hS⟩ := hS
    refine m_callV (n := 2) (av := [.int x2, .int (σ.2.2.1 29 x1.toNatClampNeg)]) (rest := []) C hE (mc_Mo_unhandled l D cs B dE mo ad n _ _ _ hs29) km_Mo_246 kv_Mo_unhandled kl_Mo_unhandled kd_Mo_unhandled ki_Mo ⟨rfl, by decide, by decide, by decide⟩ rfl ⟨rfl, rfl⟩ (by decide) (by decide) d_Mo_checkHandle_204 (Nat.le_of_ble_eq_true rfl) _ rfl (fun v1 σ1 hv => ?_)
    obtain ⟨rfl, rfl⟩ := hv
    rw [mbind_eq] at hF hS
    generalize F_Mo_unhandled n σ x2 (σ.2.2.1 29 x1.toNatClampNeg) = w28 at hF hS ⊢
    refine GW.eqs (st' := [.int w28.1]) rfl ?_
    refine g_iload C d_Mo_checkHandle_207 rfl ?_
    refine g_iconst (v := (-1)) C d_Mo_checkHandle_209 (by decide) ?_
    refine g_ixor C d_Mo_checkHandle_210 ?_
    refine g_iand C d_Mo_checkHandle_211 ?_
    refine g_if_eq C 227 d_Mo_checkHandle_212 (by decide) (fun hc30 => ?_) (fun hc30 => ?_)
    · rw [if_pos hc30] at hF hS
      refine GW.subl [1, 2, 5] rfl ?_
      exact w_Mo_checkHandle_j227 C hE hr hlocks n w28.2 x1 x4 Fv hS hF
    · rw [if_neg hc30] at hF hS
      refine g_aload_n C d_Mo_checkHandle_215 rfl ?_
      refine g_bipush (v := 7) C d_Mo_checkHandle_216 (by decide) ?_
      refine g_aload_n C d_Mo_checkHandle_218 rfl ?_
      refine m_geta C hE 9 (by decide) (by decide) (by decide) kf_Mo_22 d_Mo_checkHandle_219 ?_
      refine g_iload_n C d_Mo_checkHandle_222 rfl ?_
      obtain ⟨hi31, hS⟩ := hS
      refine m_ald C hE 9 (by decide) (by decide) hi31 d_Mo_checkHandle_223 ?_
      obtain ⟨hs33, hS⟩ := hS
      refine m_callV (n := 2) (av := [.int 7, .int (w28.2.2.2.1 9 x2.toNatClampNeg)]) (rest := []) C hE (mc_Mo_wrong l D cs B dE mo ad _ _ _ hs33) km_Mo_237 kv_Mo_wrong kl_Mo_wrong kd_Mo_wrong ki_Mo ⟨rfl, by decide, by decide, by decide⟩ rfl ⟨rfl, rfl⟩ (by decide) (by decide) d_Mo_checkHandle_224 (Nat.le_of_ble_eq_true rfl) _ rfl (fun v1 σ1 hv => ?_)
      obtain ⟨rfl, rfl⟩ := hv
      rw [mbind_eq] at hF hS
      generalize F_Mo_wrong w28.2 7 (w28.2.2.2.1 9 x2.toNatClampNeg) = w32 at hF hS ⊢
      refine GW.eqs (st' := []) rfl ?_
      refine GW.subl [1, 2, 5] rfl ?_
      exact w_Mo_checkHandle_j227 C hE hr hlocks n w32 x1 x4 Fv hS hF
  · rw [if_neg hc26] at hF hS
    refine g_aload_n C d_Mo_checkHandle_185 rfl ?_
    refine g_iload_n C d_Mo_checkHandle_186 rfl ?_
    refine g_iload_n C d_Mo_checkHandle_187 rfl ?_
    refine g_iload C d_Mo_checkHandle_188 rfl ?_
    obtain ⟨hs35, hS⟩ := hS
    refine m_callV (n := 3) (av := [.int x1, .int x2, .int (x3 - 2)]) (rest := []) C hE (mc_Mo_beginClause l D cs B dE mo ad n _ _ _ _ hs35) km_Mo_243 kv_Mo_beginClause kl_Mo_beginClause kd_Mo_beginClause ki_Mo ⟨rfl, by decide, by decide, by decide⟩ rfl ⟨rfl, rfl⟩ (by decide) (by decide) d_Mo_checkHandle_190 (Nat.le_of_ble_eq_true rfl) _ rfl (fun v1 σ1 hv => ?_)
    obtain ⟨rfl, rfl⟩ := hv
    rw [mbind_eq] at hF hS
    generalize F_Mo_beginClause n σ x1 x2 (x3 - 2) = w34 at hF hS ⊢
    refine GW.eqs (st' := []) rfl ?_
    refine g_goto C 239 d_Mo_checkHandle_193 (by decide) ?_
    exact m_vret C hr hlocks d_Mo_checkHandle_239 (by rw [← hF]; exact ⟨rfl, rfl⟩)
def F_Mo_checkHandle_j149 (n : Nat) (σ : mSt) (x1 : Int32) (x2 : Int32) (x3 : Int32) (x4 : Int32) (x5 : Int32) : mSt := if ((σ.1 33) &&& (x4 ^^^ (-1))) = 0 then (F_Mo_checkHandle_j169 n σ x1 x2 x3 x4) else (mbind (F_Mo_wrong σ 7 x5) (fun w37 => F_Mo_checkHandle_j169 n w37 x1 x2 x3 x4))
def S_Mo_checkHandle_j149 (n : Nat) (σ : mSt) (x1 : Int32) (x2 : Int32) (x3 : Int32) (x4 : Int32) (x5 : Int32) : Prop := if ((σ.1 33) &&& (x4 ^^^ (-1))) = 0 then (S_Mo_checkHandle_j169 n σ x1 x2 x3 x4) else ((S_Mo_wrong σ 7 x5) ∧ (mbind (F_Mo_wrong σ 7 x5) (fun w37 => S_Mo_checkHandle_j169 n w37 x1 x2 x3 x4)))
set_option maxRecDepth 100000 in
set_option maxHeartbeats 4000000 in
theorem w_Mo_checkHandle_j149 {p : Program} {l : Launch} {e : Env} {s : State} {m : MethodId} {args : Array Value} {below : List Frame} {meth : Method} {c : Code} {D : va_G} {cs : Nat → ClassId} {B : Nat} {dE : Nat × Nat} {mo : Nat} {ad : Nat → Nat} {M0 : gMem} (C : CallFix p m c c_Mo_checkHandle 6 s args gT R_Mo) (hE : gEnv D gcl (gtys cs) gz B dE s) (hr : meth.sig.returnType = none) (hlocks : meth.locks = false) (n : Nat) (σ : mSt) (x1 : Int32) (x2 : Int32) (x3 : Int32) (x4 : Int32) (x5 : Int32) (Fv : mSt) (hS : S_Mo_checkHandle_j149 n σ x1 x2 x3 x4 x5) (hF : F_Mo_checkHandle_j149 n σ x1 x2 x3 x4 x5 = Fv) : GW p l e ({ frames := 3, cells := 0, slots := 0, locals := 73 } : Room) s m args below meth c 6 (gA B) (mQ below D cs B mo ad M0 (fun r σ' => r = none ∧ σ' = Fv) args s) (mo_P D B cs mo ad M0 σ) 0 0 149 [(0, .ref mo), (1, .int x1), (2, .int x2), (3, .int x3), (4, .int x4), (5, .int x5)] [] := by
  unfold F_Mo_checkHandle_j149 at hF
  unfold S_Mo_checkHandle_j149 at hS
  refine g_aload_n C d_Mo_checkHandle_149 rfl ?_
  refine m_geti C hE 33 (by decide) (by decide) kf_Mo_230 d_Mo_checkHandle_150 ?_
  refine g_iload C d_Mo_checkHandle_153 rfl ?_
  refine g_iconst (v := (-1)) C d_Mo_checkHandle_155 (by decide) ?_
  refine g_ixor C d_Mo_checkHandle_156 ?_
  refine g_iand C d_Mo_checkHandle_157 ?_
  refine g_if_eq C 169 d_Mo_checkHandle_158 (by decide) (fun hc36 => ?_) (fun hc36 => ?_)
  · rw [if_pos hc36] at hF hS
    refine GW.subl [0, 1, 2, 3, 4] rfl ?_
    exact w_Mo_checkHandle_j169 C hE hr hlocks n σ x1 x2 x3 x4 Fv hS hF
  · rw [if_neg hc36] at hF hS
    refine g_aload_n C d_Mo_checkHandle_161 rfl ?_
    refine g_bipush (v := 7) C d_Mo_checkHandle_162 (by decide) ?_
    refine g_iload C d_Mo_checkHandle_164 rfl ?_
    obtain ⟨hs38, hS⟩ := hS
    refine m_callV (n := 2) (av := [.int 7, .int x5]) (rest := []) C hE (mc_Mo_wrong l D cs B dE mo ad _ _ _ hs38) km_Mo_237 kv_Mo_wrong kl_Mo_wrong kd_Mo_wrong ki_Mo ⟨rfl, by decide, by decide, by decide⟩ rfl ⟨rfl, rfl⟩ (by decide) (by decide) d_Mo_checkHandle_166 (Nat.le_of_ble_eq_true rfl) _ rfl (fun v1 σ1 hv => ?_)
    obtain ⟨rfl, rfl⟩ := hv
    rw [mbind_eq] at hF hS
    generalize F_Mo_wrong σ 7 x5 = w37 at hF hS ⊢
    refine GW.eqs (st' := []) rfl ?_
    refine GW.subl [0, 1, 2, 3, 4] rfl ?_
    exact w_Mo_checkHandle_j169 C hE hr hlocks n w37 x1 x2 x3 x4 Fv hS hF
def F_Mo_checkHandle (n : Nat) (σ : mSt) (x1 : Int32) (x2 : Int32) (x3 : Int32) : mSt := if x3 = 0 then (mbind (F_Mo_into n σ (σ.2.2.1 9 x2.toNatClampNeg)) (fun w23 => w23)) else (if x3 = 1 then (mbind (F_Mo_intoWith n (mo_ai σ 29 x1.toNatClampNeg (σ.1 33)) ((mo_ai σ 29 x1.toNatClampNeg (σ.1 33)).2.2.1 10 x2.toNatClampNeg) ((mo_ai σ 29 x1.toNatClampNeg (σ.1 33)).2.2.1 6 x2.toNatClampNeg) ((mo_ai σ 29 x1.toNatClampNeg (σ.1 33)).1 32)) (fun w20 => w20)) else (if x3 = 2 then (if (((mo_ai σ 28 x1.toNatClampNeg (σ.1 32)).1 33) &&& ((σ.2.2.1 7 x2.toNatClampNeg) ^^^ (-1))) = 0 then (F_Mo_checkHandle_j169 n (mo_ai σ 28 x1.toNatClampNeg (σ.1 32)) x1 x2 x3 (σ.2.2.1 7 x2.toNatClampNeg)) else (mbind (F_Mo_wrong (mo_ai σ 28 x1.toNatClampNeg (σ.1 32)) 7 ((mo_ai σ 28 x1.toNatClampNeg (σ.1 32)).2.2.1 10 x2.toNatClampNeg)) (fun w15 => F_Mo_checkHandle_j169 n w15 x1 x2 x3 (σ.2.2.1 7 x2.toNatClampNeg)))) else (if (σ.2.2.1 23 ((520 * (σ.1 32)) + (σ.2.2.1 28 x1.toNatClampNeg)).toNatClampNeg) = 0 then (mbind (F_Mo_wrong σ 6 (σ.2.2.1 19 (((σ.2.2.1 14 x2.toNatClampNeg) + x3) - 3).toNatClampNeg)) (fun w10 => F_Mo_checkHandle_j149 n w10 x1 x2 x3 (σ.2.2.1 7 x2.toNatClampNeg) (σ.2.2.1 19 (((σ.2.2.1 14 x2.toNatClampNeg) + x3) - 3).toNatClampNeg))) else (F_Mo_checkHandle_j149 n σ x1 x2 x3 (σ.2.2.1 7 x2.toNatClampNeg) (σ.2.2.1 19 (((σ.2.2.1 14 x2.toNatClampNeg) + x3) - 3).toNatClampNeg)))))
def S_Mo_checkHandle (n : Nat) (σ : mSt) (x1 : Int32) (x2 : Int32) (x3 : Int32) : Prop := (vp_in x2 200) ∧ (if x3 = 0 then ((vp_in x2 200) ∧ ((S_Mo_into n σ (σ.2.2.1 9 x2.toNatClampNeg)) ∧ (mbind (F_Mo_into n σ (σ.2.2.1 9 x2.toNatClampNeg)) (fun w23 => True)))) else (if x3 = 1 then ((vp_in x1 45) ∧ ((vp_in x2 200) ∧ ((vp_in x2 200) ∧ ((S_Mo_intoWith n (mo_ai σ 29 x1.toNatClampNeg (σ.1 33)) ((mo_ai σ 29 x1.toNatClampNeg (σ.1 33)).2.2.1 10 x2.toNatClampNeg) ((mo_ai σ 29 x1.toNatClampNeg (σ.1 33)).2.2.1 6 x2.toNatClampNeg) ((mo_ai σ 29 x1.toNatClampNeg (σ.1 33)).1 32)) ∧ (mbind (F_Mo_intoWith n (mo_ai σ 29 x1.toNatClampNeg (σ.1 33)) ((mo_ai σ 29 x1.toNatClampNeg (σ.1 33)).2.2.1 10 x2.toNatClampNeg) ((mo_ai σ 29 x1.toNatClampNeg (σ.1 33)).2.2.1 6 x2.toNatClampNeg) ((mo_ai σ 29 x1.toNatClampNeg (σ.1 33)).1 32)) (fun w20 => True)))))) else (if x3 = 2 then ((vp_in x1 45) ∧ (if (((mo_ai σ 28 x1.toNatClampNeg (σ.1 32)).1 33) &&& ((σ.2.2.1 7 x2.toNatClampNeg) ^^^ (-1))) = 0 then (S_Mo_checkHandle_j169 n (mo_ai σ 28 x1.toNatClampNeg (σ.1 32)) x1 x2 x3 (σ.2.2.1 7 x2.toNatClampNeg)) else ((vp_in x2 200) ∧ ((S_Mo_wrong (mo_ai σ 28 x1.toNatClampNeg (σ.1 32)) 7 ((mo_ai σ 28 x1.toNatClampNeg (σ.1 32)).2.2.1 10 x2.toNatClampNeg)) ∧ (mbind (F_Mo_wrong (mo_ai σ 28 x1.toNatClampNeg (σ.1 32)) 7 ((mo_ai σ 28 x1.toNatClampNeg (σ.1 32)).2.2.1 10 x2.toNatClampNeg)) (fun w15 => S_Mo_checkHandle_j169 n w15 x1 x2 x3 (σ.2.2.1 7 x2.toNatClampNeg))))))) else ((vp_in x2 200) ∧ ((vp_in (((σ.2.2.1 14 x2.toNatClampNeg) + x3) - 3) 40) ∧ ((vp_in x1 45) ∧ ((vp_in ((520 * (σ.1 32)) + (σ.2.2.1 28 x1.toNatClampNeg)) 270400) ∧ (if (σ.2.2.1 23 ((520 * (σ.1 32)) + (σ.2.2.1 28 x1.toNatClampNeg)).toNatClampNeg) = 0 then ((S_Mo_wrong σ 6 (σ.2.2.1 19 (((σ.2.2.1 14 x2.toNatClampNeg) + x3) - 3).toNatClampNeg)) ∧ (mbind (F_Mo_wrong σ 6 (σ.2.2.1 19 (((σ.2.2.1 14 x2.toNatClampNeg) + x3) - 3).toNatClampNeg)) (fun w10 => S_Mo_checkHandle_j149 n w10 x1 x2 x3 (σ.2.2.1 7 x2.toNatClampNeg) (σ.2.2.1 19 (((σ.2.2.1 14 x2.toNatClampNeg) + x3) - 3).toNatClampNeg)))) else (S_Mo_checkHandle_j149 n σ x1 x2 x3 (σ.2.2.1 7 x2.toNatClampNeg) (σ.2.2.1 19 (((σ.2.2.1 14 x2.toNatClampNeg) + x3) - 3).toNatClampNeg))))))))))
set_option maxRecDepth 100000 in
set_option maxHeartbeats 4000000 in
theorem mc_Mo_checkHandle (l : Launch) (D : va_G) (cs : Nat → ClassId) (B : Nat) (dE : Nat × Nat) (mo : Nat) (ad : Nat → Nat) (n : Nat) (σ : mSt) (x1 : Int32) (x2 : Int32) (x3 : Int32) (hS : S_Mo_checkHandle n σ x1 x2 x3) : mMet l y_Mo_checkHandle (Cond.code y_Mo_checkHandle c_Mo_checkHandle 6 none) ({ frames := 3, cells := 0, slots := 0, locals := 73 } : Room) D cs B dE mo ad [.ref mo, .int x1, .int x2, .int x3] σ (fun r σ' => r = none ∧ σ' = F_Mo_checkHandle n σ x1 x2 x3) := by
  refine mMet.ofW (by decide) rfl (Nat.le_of_ble_eq_true rfl) (lv0 := [(0, .ref mo), (1, .int x1), (2, .int x2), (3, .int x3)]) rfl ?_
  intro p e s m args below meth c M0 C hE hr hlocks
  generalize hF : F_Mo_checkHandle n σ x1 x2 x3 = Fv
  unfold F_Mo_checkHandle at hF
  unfold S_Mo_checkHandle at hS
  refine g_aload_n C d_Mo_checkHandle_0 rfl ?_
  refine m_geta C hE 7 (by decide) (by decide) (by decide) kf_Mo_16 d_Mo_checkHandle_1 ?_
  refine g_iload_n C d_Mo_checkHandle_4 rfl ?_
  obtain ⟨hi1, hS⟩ := hS
  refine m_ald C hE 7 (by decide) (by decide) hi1 d_Mo_checkHandle_5 ?_
  refine g_istore (lv' := [(4, .int (σ.2.2.1 7 x2.toNatClampNeg)), (0, .ref mo), (1, .int x1), (2, .int x2), (3, .int x3)]) C d_Mo_checkHandle_6 (by decide) rfl ?_
  refine g_iload_n C d_Mo_checkHandle_8 rfl ?_
  refine g_if_ne C 23 d_Mo_checkHandle_9 (by decide) (fun hc2 => ?_) (fun hc2 => ?_)
  · rw [if_neg hc2] at hF hS
    refine g_iload_n C d_Mo_checkHandle_23 rfl ?_
    refine g_iconst (v := 1) C d_Mo_checkHandle_24 (by decide) ?_
    refine g_icmp_ne C 59 d_Mo_checkHandle_25 (by decide) (fun hc3 => ?_) (fun hc3 => ?_)
    · rw [if_neg hc3] at hF hS
      refine g_iload_n C d_Mo_checkHandle_59 rfl ?_
      refine g_iconst (v := 2) C d_Mo_checkHandle_60 (by decide) ?_
      refine g_icmp_ne C 101 d_Mo_checkHandle_61 (by decide) (fun hc4 => ?_) (fun hc4 => ?_)
      · rw [if_neg hc4] at hF hS
        refine g_aload_n C d_Mo_checkHandle_101 rfl ?_
        refine m_geta C hE 19 (by decide) (by decide) (by decide) kf_Mo_52 d_Mo_checkHandle_102 ?_
        refine g_aload_n C d_Mo_checkHandle_105 rfl ?_
        refine m_geta C hE 14 (by decide) (by decide) (by decide) kf_Mo_37 d_Mo_checkHandle_106 ?_
        refine g_iload_n C d_Mo_checkHandle_109 rfl ?_
        obtain ⟨hi5, hS⟩ := hS
        refine m_ald C hE 14 (by decide) (by decide) hi5 d_Mo_checkHandle_110 ?_
        refine g_iload_n C d_Mo_checkHandle_111 rfl ?_
        refine g_iadd C d_Mo_checkHandle_112 ?_
        refine g_iconst (v := 3) C d_Mo_checkHandle_113 (by decide) ?_
        refine g_isub C d_Mo_checkHandle_114 ?_
        obtain ⟨hi6, hS⟩ := hS
        refine m_ald C hE 19 (by decide) (by decide) hi6 d_Mo_checkHandle_115 ?_
        refine g_istore (lv' := [(5, .int (σ.2.2.1 19 (((σ.2.2.1 14 x2.toNatClampNeg) + x3) - 3).toNatClampNeg)), (4, .int (σ.2.2.1 7 x2.toNatClampNeg)), (0, .ref mo), (1, .int x1), (2, .int x2), (3, .int x3)]) C d_Mo_checkHandle_116 (by decide) rfl ?_
        refine g_aload_n C d_Mo_checkHandle_118 rfl ?_
        refine m_geta C hE 23 (by decide) (by decide) (by decide) kf_Mo_65 d_Mo_checkHandle_119 ?_
        refine g_sipush (v := 520) C d_Mo_checkHandle_122 (by decide) ?_
        refine g_aload_n C d_Mo_checkHandle_125 rfl ?_
        refine m_geti C hE 32 (by decide) (by decide) kf_Mo_227 d_Mo_checkHandle_126 ?_
        refine g_imul C d_Mo_checkHandle_129 ?_
        refine g_aload_n C d_Mo_checkHandle_130 rfl ?_
        refine m_geta C hE 28 (by decide) (by decide) (by decide) kf_Mo_81 d_Mo_checkHandle_131 ?_
        refine g_iload_n C d_Mo_checkHandle_134 rfl ?_
        obtain ⟨hi7, hS⟩ := hS
        refine m_ald C hE 28 (by decide) (by decide) hi7 d_Mo_checkHandle_135 ?_
        refine g_iadd C d_Mo_checkHandle_136 ?_
        obtain ⟨hi8, hS⟩ := hS
        refine m_zald C hE 23 (by decide) (by decide) hi8 d_Mo_checkHandle_137 ?_
        refine g_if_ne C 149 d_Mo_checkHandle_138 (by decide) (fun hc9 => ?_) (fun hc9 => ?_)
        · rw [if_neg hc9] at hF hS
          refine GW.subl [2, 3, 4, 5, 1, 0] rfl ?_
          exact w_Mo_checkHandle_j149 C hE hr hlocks n σ x1 x2 x3 (σ.2.2.1 7 x2.toNatClampNeg) (σ.2.2.1 19 (((σ.2.2.1 14 x2.toNatClampNeg) + x3) - 3).toNatClampNeg) Fv hS hF
        · rw [if_pos hc9] at hF hS
          refine g_aload_n C d_Mo_checkHandle_141 rfl ?_
          refine g_bipush (v := 6) C d_Mo_checkHandle_142 (by decide) ?_
          refine g_iload C d_Mo_checkHandle_144 rfl ?_
          obtain ⟨hs11, hS⟩ := hS
          refine m_callV (n := 2) (av := [.int 6, .int (σ.2.2.1 19 (((σ.2.2.1 14 x2.toNatClampNeg) + x3) - 3).toNatClampNeg)]) (rest := []) C hE (mc_Mo_wrong l D cs B dE mo ad _ _ _ hs11) km_Mo_237 kv_Mo_wrong kl_Mo_wrong kd_Mo_wrong ki_Mo ⟨rfl, by decide, by decide, by decide⟩ rfl ⟨rfl, rfl⟩ (by decide) (by decide) d_Mo_checkHandle_146 (Nat.le_of_ble_eq_true rfl) _ rfl (fun v1 σ1 hv => ?_)
          obtain ⟨rfl, rfl⟩ := hv
          rw [mbind_eq] at hF hS
          generalize F_Mo_wrong σ 6 (σ.2.2.1 19 (((σ.2.2.1 14 x2.toNatClampNeg) + x3) - 3).toNatClampNeg) = w10 at hF hS ⊢
          refine GW.eqs (st' := []) rfl ?_
          refine GW.subl [2, 3, 4, 5, 1, 0] rfl ?_
          exact w_Mo_checkHandle_j149 C hE hr hlocks n w10 x1 x2 x3 (σ.2.2.1 7 x2.toNatClampNeg) (σ.2.2.1 19 (((σ.2.2.1 14 x2.toNatClampNeg) + x3) - 3).toNatClampNeg) Fv hS hF
      · rw [if_pos hc4] at hF hS
        refine g_aload_n C d_Mo_checkHandle_64 rfl ?_
        refine m_geta C hE 28 (by decide) (by decide) (by decide) kf_Mo_81 d_Mo_checkHandle_65 ?_
        refine g_iload_n C d_Mo_checkHandle_68 rfl ?_
        refine g_aload_n C d_Mo_checkHandle_69 rfl ?_
        refine m_geti C hE 32 (by decide) (by decide) kf_Mo_227 d_Mo_checkHandle_70 ?_
        obtain ⟨hi12, hS⟩ := hS
        refine m_ast C hE 28 (by decide) (by decide) hi12 d_Mo_checkHandle_73 ?_
        refine g_aload_n C d_Mo_checkHandle_74 rfl ?_
        refine m_geti C hE 33 (by decide) (by decide) kf_Mo_230 d_Mo_checkHandle_75 ?_
        refine g_iload C d_Mo_checkHandle_78 rfl ?_
        refine g_iconst (v := (-1)) C d_Mo_checkHandle_80 (by decide) ?_
        refine g_ixor C d_Mo_checkHandle_81 ?_
        refine g_iand C d_Mo_checkHandle_82 ?_
        refine g_if_eq C 169 d_Mo_checkHandle_83 (by decide) (fun hc13 => ?_) (fun hc13 => ?_)
        · rw [if_pos hc13] at hF hS
          refine GW.subl [1, 2, 3, 4, 0] rfl ?_
          exact w_Mo_checkHandle_j169 C hE hr hlocks n (mo_ai σ 28 x1.toNatClampNeg (σ.1 32)) x1 x2 x3 (σ.2.2.1 7 x2.toNatClampNeg) Fv hS hF
        · rw [if_neg hc13] at hF hS
          refine g_aload_n C d_Mo_checkHandle_86 rfl ?_
          refine g_bipush (v := 7) C d_Mo_checkHandle_87 (by decide) ?_
          refine g_aload_n C d_Mo_checkHandle_89 rfl ?_
          refine m_geta C hE 10 (by decide) (by decide) (by decide) kf_Mo_25 d_Mo_checkHandle_90 ?_
          refine g_iload_n C d_Mo_checkHandle_93 rfl ?_
          obtain ⟨hi14, hS⟩ := hS
          refine m_ald C hE 10 (by decide) (by decide) hi14 d_Mo_checkHandle_94 ?_
          obtain ⟨hs16, hS⟩ := hS
          refine m_callV (n := 2) (av := [.int 7, .int ((mo_ai σ 28 x1.toNatClampNeg (σ.1 32)).2.2.1 10 x2.toNatClampNeg)]) (rest := []) C hE (mc_Mo_wrong l D cs B dE mo ad _ _ _ hs16) km_Mo_237 kv_Mo_wrong kl_Mo_wrong kd_Mo_wrong ki_Mo ⟨rfl, by decide, by decide, by decide⟩ rfl ⟨rfl, rfl⟩ (by decide) (by decide) d_Mo_checkHandle_95 (Nat.le_of_ble_eq_true rfl) _ rfl (fun v1 σ1 hv => ?_)
          obtain ⟨rfl, rfl⟩ := hv
          rw [mbind_eq] at hF hS
          generalize F_Mo_wrong (mo_ai σ 28 x1.toNatClampNeg (σ.1 32)) 7 ((mo_ai σ 28 x1.toNatClampNeg (σ.1 32)).2.2.1 10 x2.toNatClampNeg) = w15 at hF hS ⊢
          refine GW.eqs (st' := []) rfl ?_
          refine g_goto C 169 d_Mo_checkHandle_98 (by decide) ?_
          refine GW.subl [1, 2, 3, 4, 0] rfl ?_
          exact w_Mo_checkHandle_j169 C hE hr hlocks n w15 x1 x2 x3 (σ.2.2.1 7 x2.toNatClampNeg) Fv hS hF
    · rw [if_pos hc3] at hF hS
      refine g_aload_n C d_Mo_checkHandle_28 rfl ?_
      refine m_geta C hE 29 (by decide) (by decide) (by decide) kf_Mo_84 d_Mo_checkHandle_29 ?_
      refine g_iload_n C d_Mo_checkHandle_32 rfl ?_
      refine g_aload_n C d_Mo_checkHandle_33 rfl ?_
      refine m_geti C hE 33 (by decide) (by decide) kf_Mo_230 d_Mo_checkHandle_34 ?_
      obtain ⟨hi17, hS⟩ := hS
      refine m_ast C hE 29 (by decide) (by decide) hi17 d_Mo_checkHandle_37 ?_
      refine g_aload_n C d_Mo_checkHandle_38 rfl ?_
      refine g_aload_n C d_Mo_checkHandle_39 rfl ?_
      refine m_geta C hE 10 (by decide) (by decide) (by decide) kf_Mo_25 d_Mo_checkHandle_40 ?_
      refine g_iload_n C d_Mo_checkHandle_43 rfl ?_
      obtain ⟨hi18, hS⟩ := hS
      refine m_ald C hE 10 (by decide) (by decide) hi18 d_Mo_checkHandle_44 ?_
      refine g_aload_n C d_Mo_checkHandle_45 rfl ?_
      refine m_geta C hE 6 (by decide) (by decide) (by decide) kf_Mo_13 d_Mo_checkHandle_46 ?_
      refine g_iload_n C d_Mo_checkHandle_49 rfl ?_
      obtain ⟨hi19, hS⟩ := hS
      refine m_ald C hE 6 (by decide) (by decide) hi19 d_Mo_checkHandle_50 ?_
      refine g_aload_n C d_Mo_checkHandle_51 rfl ?_
      refine m_geti C hE 32 (by decide) (by decide) kf_Mo_227 d_Mo_checkHandle_52 ?_
      obtain ⟨hs21, hS⟩ := hS
      refine m_callV (n := 3) (av := [.int ((mo_ai σ 29 x1.toNatClampNeg (σ.1 33)).2.2.1 10 x2.toNatClampNeg), .int ((mo_ai σ 29 x1.toNatClampNeg (σ.1 33)).2.2.1 6 x2.toNatClampNeg), .int ((mo_ai σ 29 x1.toNatClampNeg (σ.1 33)).1 32)]) (rest := []) C hE (mc_Mo_intoWith l D cs B dE mo ad n _ _ _ _ hs21) km_Mo_233 kv_Mo_intoWith kl_Mo_intoWith kd_Mo_intoWith ki_Mo ⟨rfl, by decide, by decide, by decide⟩ rfl ⟨rfl, rfl⟩ (by decide) (by decide) d_Mo_checkHandle_55 (Nat.le_of_ble_eq_true rfl) _ rfl (fun v1 σ1 hv => ?_)
      obtain ⟨rfl, rfl⟩ := hv
      rw [mbind_eq] at hF hS
      generalize F_Mo_intoWith n (mo_ai σ 29 x1.toNatClampNeg (σ.1 33)) ((mo_ai σ 29 x1.toNatClampNeg (σ.1 33)).2.2.1 10 x2.toNatClampNeg) ((mo_ai σ 29 x1.toNatClampNeg (σ.1 33)).2.2.1 6 x2.toNatClampNeg) ((mo_ai σ 29 x1.toNatClampNeg (σ.1 33)).1 32) = w20 at hF hS ⊢
      refine GW.eqs (st' := []) rfl ?_
      exact m_vret C hr hlocks d_Mo_checkHandle_58 (by rw [← hF]; exact ⟨rfl, rfl⟩)
  · rw [if_pos hc2] at hF hS
    refine g_aload_n C d_Mo_checkHandle_12 rfl ?_
    refine g_aload_n C d_Mo_checkHandle_13 rfl ?_
    refine m_geta C hE 9 (by decide) (by decide) (by decide) kf_Mo_22 d_Mo_checkHandle_14 ?_
    refine g_iload_n C d_Mo_checkHandle_17 rfl ?_
    obtain ⟨hi22, hS⟩ := hS
    refine m_ald C hE 9 (by decide) (by decide) hi22 d_Mo_checkHandle_18 ?_
    obtain ⟨hs24, hS⟩ := hS
    refine m_callV (n := 1) (av := [.int (σ.2.2.1 9 x2.toNatClampNeg)]) (rest := []) C hE (mc_Mo_into l D cs B dE mo ad n _ _ hs24) km_Mo_223 kv_Mo_into kl_Mo_into kd_Mo_into ki_Mo ⟨rfl, by decide, by decide, by decide⟩ rfl ⟨rfl, rfl⟩ (by decide) (by decide) d_Mo_checkHandle_19 (Nat.le_of_ble_eq_true rfl) _ rfl (fun v1 σ1 hv => ?_)
    obtain ⟨rfl, rfl⟩ := hv
    rw [mbind_eq] at hF hS
    generalize F_Mo_into n σ (σ.2.2.1 9 x2.toNatClampNeg) = w23 at hF hS ⊢
    refine GW.eqs (st' := []) rfl ?_
    exact m_vret C hr hlocks d_Mo_checkHandle_22 (by rw [← hF]; exact ⟨rfl, rfl⟩)
def F_Mo_checkAtom (σ : mSt) (x1 : Int32) (x2 : Int32) : mSt := if (σ.2.2.1 5 x2.toNatClampNeg) = 3 then (if (σ.2.2.1 30 ((10 * x1) + (σ.2.2.1 6 x2.toNatClampNeg)).toNatClampNeg) = (-1) then (mbind (F_Mo_wrong σ 5 x2) (fun w8 => mbind (F_Mo_ends w8 (σ.2.2.1 30 ((10 * x1) + (σ.2.2.1 6 x2.toNatClampNeg)).toNatClampNeg) 0) (fun w10 => w10))) else (mbind (F_Mo_ends σ (σ.2.2.1 30 ((10 * x1) + (σ.2.2.1 6 x2.toNatClampNeg)).toNatClampNeg) 0) (fun w6 => w6))) else (if (σ.2.2.1 5 x2.toNatClampNeg) = 0 then (mbind (F_Mo_ends σ 0 0) (fun w20 => w20)) else (if (σ.2.2.1 5 x2.toNatClampNeg) = 1 then (mbind (F_Mo_ends σ 1 0) (fun w18 => w18)) else (mbind (F_Mo_ends σ 2 0) (fun w16 => w16))))
def S_Mo_checkAtom (σ : mSt) (x1 : Int32) (x2 : Int32) : Prop := (vp_in x2 200) ∧ (if (σ.2.2.1 5 x2.toNatClampNeg) = 3 then ((vp_in x2 200) ∧ ((vp_in ((10 * x1) + (σ.2.2.1 6 x2.toNatClampNeg)) 450) ∧ (if (σ.2.2.1 30 ((10 * x1) + (σ.2.2.1 6 x2.toNatClampNeg)).toNatClampNeg) = (-1) then ((S_Mo_wrong σ 5 x2) ∧ (mbind (F_Mo_wrong σ 5 x2) (fun w8 => (S_Mo_ends w8 (σ.2.2.1 30 ((10 * x1) + (σ.2.2.1 6 x2.toNatClampNeg)).toNatClampNeg) 0) ∧ (mbind (F_Mo_ends w8 (σ.2.2.1 30 ((10 * x1) + (σ.2.2.1 6 x2.toNatClampNeg)).toNatClampNeg) 0) (fun w10 => True))))) else ((S_Mo_ends σ (σ.2.2.1 30 ((10 * x1) + (σ.2.2.1 6 x2.toNatClampNeg)).toNatClampNeg) 0) ∧ (mbind (F_Mo_ends σ (σ.2.2.1 30 ((10 * x1) + (σ.2.2.1 6 x2.toNatClampNeg)).toNatClampNeg) 0) (fun w6 => True)))))) else ((vp_in x2 200) ∧ (if (σ.2.2.1 5 x2.toNatClampNeg) = 0 then ((S_Mo_ends σ 0 0) ∧ (mbind (F_Mo_ends σ 0 0) (fun w20 => True))) else ((vp_in x2 200) ∧ (if (σ.2.2.1 5 x2.toNatClampNeg) = 1 then ((S_Mo_ends σ 1 0) ∧ (mbind (F_Mo_ends σ 1 0) (fun w18 => True))) else ((S_Mo_ends σ 2 0) ∧ (mbind (F_Mo_ends σ 2 0) (fun w16 => True))))))))
set_option maxRecDepth 100000 in
set_option maxHeartbeats 4000000 in
theorem mc_Mo_checkAtom (l : Launch) (D : va_G) (cs : Nat → ClassId) (B : Nat) (dE : Nat × Nat) (mo : Nat) (ad : Nat → Nat) (σ : mSt) (x1 : Int32) (x2 : Int32) (hS : S_Mo_checkAtom σ x1 x2) : mMet l y_Mo_checkAtom (Cond.code y_Mo_checkAtom c_Mo_checkAtom 4 none) ({ frames := 1, cells := 0, slots := 0, locals := 22 } : Room) D cs B dE mo ad [.ref mo, .int x1, .int x2] σ (fun r σ' => r = none ∧ σ' = F_Mo_checkAtom σ x1 x2) := by
  refine mMet.ofW (by decide) rfl (Nat.le_of_ble_eq_true rfl) (lv0 := [(0, .ref mo), (1, .int x1), (2, .int x2)]) rfl ?_
  intro p e s m args below meth c M0 C hE hr hlocks
  generalize hF : F_Mo_checkAtom σ x1 x2 = Fv
  unfold F_Mo_checkAtom at hF
  unfold S_Mo_checkAtom at hS
  refine g_aload_n C d_Mo_checkAtom_0 rfl ?_
  refine m_geta C hE 5 (by decide) (by decide) (by decide) kf_Mo_7 d_Mo_checkAtom_1 ?_
  refine g_iload_n C d_Mo_checkAtom_4 rfl ?_
  obtain ⟨hi1, hS⟩ := hS
  refine m_ald C hE 5 (by decide) (by decide) hi1 d_Mo_checkAtom_5 ?_
  refine g_iconst (v := 3) C d_Mo_checkAtom_6 (by decide) ?_
  refine g_icmp_eq C 44 d_Mo_checkAtom_7 (by decide) (fun hc2 => ?_) (fun hc2 => ?_)
  · rw [if_pos hc2] at hF hS
    refine g_aload_n C d_Mo_checkAtom_44 rfl ?_
    refine m_geta C hE 30 (by decide) (by decide) (by decide) kf_Mo_87 d_Mo_checkAtom_45 ?_
    refine g_bipush (v := 10) C d_Mo_checkAtom_48 (by decide) ?_
    refine g_iload_n C d_Mo_checkAtom_50 rfl ?_
    refine g_imul C d_Mo_checkAtom_51 ?_
    refine g_aload_n C d_Mo_checkAtom_52 rfl ?_
    refine m_geta C hE 6 (by decide) (by decide) (by decide) kf_Mo_13 d_Mo_checkAtom_53 ?_
    refine g_iload_n C d_Mo_checkAtom_56 rfl ?_
    obtain ⟨hi3, hS⟩ := hS
    refine m_ald C hE 6 (by decide) (by decide) hi3 d_Mo_checkAtom_57 ?_
    refine g_iadd C d_Mo_checkAtom_58 ?_
    obtain ⟨hi4, hS⟩ := hS
    refine m_ald C hE 30 (by decide) (by decide) hi4 d_Mo_checkAtom_59 ?_
    refine g_istore_n (lv' := [(3, .int (σ.2.2.1 30 ((10 * x1) + (σ.2.2.1 6 x2.toNatClampNeg)).toNatClampNeg)), (0, .ref mo), (1, .int x1), (2, .int x2)]) C d_Mo_checkAtom_60 (by decide) rfl ?_
    refine g_iload_n C d_Mo_checkAtom_61 rfl ?_
    refine g_iconst (v := (-1)) C d_Mo_checkAtom_62 (by decide) ?_
    refine g_icmp_ne C 72 d_Mo_checkAtom_63 (by decide) (fun hc5 => ?_) (fun hc5 => ?_)
    · rw [if_neg hc5] at hF hS
      refine g_aload_n C d_Mo_checkAtom_72 rfl ?_
      refine g_iload_n C d_Mo_checkAtom_73 rfl ?_
      refine g_iconst (v := 0) C d_Mo_checkAtom_74 (by decide) ?_
      obtain ⟨hs7, hS⟩ := hS
      refine m_callV (n := 2) (av := [.int (σ.2.2.1 30 ((10 * x1) + (σ.2.2.1 6 x2.toNatClampNeg)).toNatClampNeg), .int 0]) (rest := []) C hE (mc_Mo_ends l D cs B dE mo ad _ _ _ hs7) km_Mo_240 kv_Mo_ends kl_Mo_ends kd_Mo_ends ki_Mo ⟨rfl, by decide, by decide, by decide⟩ rfl ⟨rfl, rfl⟩ (by decide) (by decide) d_Mo_checkAtom_75 (Nat.le_of_ble_eq_true rfl) _ rfl (fun v1 σ1 hv => ?_)
      obtain ⟨rfl, rfl⟩ := hv
      rw [mbind_eq] at hF hS
      generalize F_Mo_ends σ (σ.2.2.1 30 ((10 * x1) + (σ.2.2.1 6 x2.toNatClampNeg)).toNatClampNeg) 0 = w6 at hF hS ⊢
      refine GW.eqs (st' := []) rfl ?_
      exact m_vret C hr hlocks d_Mo_checkAtom_78 (by rw [← hF]; exact ⟨rfl, rfl⟩)
    · rw [if_pos hc5] at hF hS
      refine g_aload_n C d_Mo_checkAtom_66 rfl ?_
      refine g_iconst (v := 5) C d_Mo_checkAtom_67 (by decide) ?_
      refine g_iload_n C d_Mo_checkAtom_68 rfl ?_
      obtain ⟨hs9, hS⟩ := hS
      refine m_callV (n := 2) (av := [.int 5, .int x2]) (rest := []) C hE (mc_Mo_wrong l D cs B dE mo ad _ _ _ hs9) km_Mo_237 kv_Mo_wrong kl_Mo_wrong kd_Mo_wrong ki_Mo ⟨rfl, by decide, by decide, by decide⟩ rfl ⟨rfl, rfl⟩ (by decide) (by decide) d_Mo_checkAtom_69 (Nat.le_of_ble_eq_true rfl) _ rfl (fun v1 σ1 hv => ?_)
      obtain ⟨rfl, rfl⟩ := hv
      rw [mbind_eq] at hF hS
      generalize F_Mo_wrong σ 5 x2 = w8 at hF hS ⊢
      refine GW.eqs (st' := []) rfl ?_
      refine g_aload_n C d_Mo_checkAtom_72 rfl ?_
      refine g_iload_n C d_Mo_checkAtom_73 rfl ?_
      refine g_iconst (v := 0) C d_Mo_checkAtom_74 (by decide) ?_
      obtain ⟨hs11, hS⟩ := hS
      refine m_callV (n := 2) (av := [.int (σ.2.2.1 30 ((10 * x1) + (σ.2.2.1 6 x2.toNatClampNeg)).toNatClampNeg), .int 0]) (rest := []) C hE (mc_Mo_ends l D cs B dE mo ad _ _ _ hs11) km_Mo_240 kv_Mo_ends kl_Mo_ends kd_Mo_ends ki_Mo ⟨rfl, by decide, by decide, by decide⟩ rfl ⟨rfl, rfl⟩ (by decide) (by decide) d_Mo_checkAtom_75 (Nat.le_of_ble_eq_true rfl) _ rfl (fun v1 σ1 hv => ?_)
      obtain ⟨rfl, rfl⟩ := hv
      rw [mbind_eq] at hF hS
      generalize F_Mo_ends w8 (σ.2.2.1 30 ((10 * x1) + (σ.2.2.1 6 x2.toNatClampNeg)).toNatClampNeg) 0 = w10 at hF hS ⊢
      refine GW.eqs (st' := []) rfl ?_
      exact m_vret C hr hlocks d_Mo_checkAtom_78 (by rw [← hF]; exact ⟨rfl, rfl⟩)
  · rw [if_neg hc2] at hF hS
    refine g_aload_n C d_Mo_checkAtom_10 rfl ?_
    refine g_aload_n C d_Mo_checkAtom_11 rfl ?_
    refine m_geta C hE 5 (by decide) (by decide) (by decide) kf_Mo_7 d_Mo_checkAtom_12 ?_
    refine g_iload_n C d_Mo_checkAtom_15 rfl ?_
    obtain ⟨hi12, hS⟩ := hS
    refine m_ald C hE 5 (by decide) (by decide) hi12 d_Mo_checkAtom_16 ?_
    refine g_if_ne C 24 d_Mo_checkAtom_17 (by decide) (fun hc13 => ?_) (fun hc13 => ?_)
    · rw [if_neg hc13] at hF hS
      refine g_aload_n C d_Mo_checkAtom_24 rfl ?_
      refine m_geta C hE 5 (by decide) (by decide) (by decide) kf_Mo_7 d_Mo_checkAtom_25 ?_
      refine g_iload_n C d_Mo_checkAtom_28 rfl ?_
      obtain ⟨hi14, hS⟩ := hS
      refine m_ald C hE 5 (by decide) (by decide) hi14 d_Mo_checkAtom_29 ?_
      refine g_iconst (v := 1) C d_Mo_checkAtom_30 (by decide) ?_
      refine g_icmp_ne C 38 d_Mo_checkAtom_31 (by decide) (fun hc15 => ?_) (fun hc15 => ?_)
      · rw [if_neg hc15] at hF hS
        refine g_iconst (v := 2) C d_Mo_checkAtom_38 (by decide) ?_
        refine g_iconst (v := 0) C d_Mo_checkAtom_39 (by decide) ?_
        obtain ⟨hs17, hS⟩ := hS
        refine m_callV (n := 2) (av := [.int 2, .int 0]) (rest := []) C hE (mc_Mo_ends l D cs B dE mo ad _ _ _ hs17) km_Mo_240 kv_Mo_ends kl_Mo_ends kd_Mo_ends ki_Mo ⟨rfl, by decide, by decide, by decide⟩ rfl ⟨rfl, rfl⟩ (by decide) (by decide) d_Mo_checkAtom_40 (Nat.le_of_ble_eq_true rfl) _ rfl (fun v1 σ1 hv => ?_)
        obtain ⟨rfl, rfl⟩ := hv
        rw [mbind_eq] at hF hS
        generalize F_Mo_ends σ 2 0 = w16 at hF hS ⊢
        refine GW.eqs (st' := []) rfl ?_
        exact m_vret C hr hlocks d_Mo_checkAtom_43 (by rw [← hF]; exact ⟨rfl, rfl⟩)
      · rw [if_pos hc15] at hF hS
        refine g_iconst (v := 1) C d_Mo_checkAtom_34 (by decide) ?_
        refine g_goto C 39 d_Mo_checkAtom_35 (by decide) ?_
        refine g_iconst (v := 0) C d_Mo_checkAtom_39 (by decide) ?_
        obtain ⟨hs19, hS⟩ := hS
        refine m_callV (n := 2) (av := [.int 1, .int 0]) (rest := []) C hE (mc_Mo_ends l D cs B dE mo ad _ _ _ hs19) km_Mo_240 kv_Mo_ends kl_Mo_ends kd_Mo_ends ki_Mo ⟨rfl, by decide, by decide, by decide⟩ rfl ⟨rfl, rfl⟩ (by decide) (by decide) d_Mo_checkAtom_40 (Nat.le_of_ble_eq_true rfl) _ rfl (fun v1 σ1 hv => ?_)
        obtain ⟨rfl, rfl⟩ := hv
        rw [mbind_eq] at hF hS
        generalize F_Mo_ends σ 1 0 = w18 at hF hS ⊢
        refine GW.eqs (st' := []) rfl ?_
        exact m_vret C hr hlocks d_Mo_checkAtom_43 (by rw [← hF]; exact ⟨rfl, rfl⟩)
    · rw [if_pos hc13] at hF hS
      refine g_iconst (v := 0) C d_Mo_checkAtom_20 (by decide) ?_
      refine g_goto C 39 d_Mo_checkAtom_21 (by decide) ?_
      refine g_iconst (v := 0) C d_Mo_checkAtom_39 (by decide) ?_
      obtain ⟨hs21, hS⟩ := hS
      refine m_callV (n := 2) (av := [.int 0, .int 0]) (rest := []) C hE (mc_Mo_ends l D cs B dE mo ad _ _ _ hs21) km_Mo_240 kv_Mo_ends kl_Mo_ends kd_Mo_ends ki_Mo ⟨rfl, by decide, by decide, by decide⟩ rfl ⟨rfl, rfl⟩ (by decide) (by decide) d_Mo_checkAtom_40 (Nat.le_of_ble_eq_true rfl) _ rfl (fun v1 σ1 hv => ?_)
      obtain ⟨rfl, rfl⟩ := hv
      rw [mbind_eq] at hF hS
      generalize F_Mo_ends σ 0 0 = w20 at hF hS ⊢
      refine GW.eqs (st' := []) rfl ?_
      exact m_vret C hr hlocks d_Mo_checkAtom_43 (by rw [← hF]; exact ⟨rfl, rfl⟩)
def F_Mo_checkStep (n : Nat) (σ : mSt) : mSt := if ((mo_ai σ 27 ((σ.1 31) - 1).toNatClampNeg ((σ.2.2.1 27 ((σ.1 31) - 1).toNatClampNeg) + 1)).2.2.1 5 (σ.2.2.1 26 ((σ.1 31) - 1).toNatClampNeg).toNatClampNeg) = 4 then (if (σ.2.2.1 27 ((σ.1 31) - 1).toNatClampNeg) = 0 then (mbind (F_Mo_into n (mo_ai σ 27 ((σ.1 31) - 1).toNatClampNeg ((σ.2.2.1 27 ((σ.1 31) - 1).toNatClampNeg) + 1)) ((mo_ai σ 27 ((σ.1 31) - 1).toNatClampNeg ((σ.2.2.1 27 ((σ.1 31) - 1).toNatClampNeg) + 1)).2.2.1 9 (σ.2.2.1 26 ((σ.1 31) - 1).toNatClampNeg).toNatClampNeg)) (fun w18 => w18)) else (if (σ.2.2.1 27 ((σ.1 31) - 1).toNatClampNeg) = 1 then (mbind (F_Mo_intoWith n (mo_ai (mo_ai σ 27 ((σ.1 31) - 1).toNatClampNeg ((σ.2.2.1 27 ((σ.1 31) - 1).toNatClampNeg) + 1)) 29 ((σ.1 31) - 1).toNatClampNeg ((mo_ai σ 27 ((σ.1 31) - 1).toNatClampNeg ((σ.2.2.1 27 ((σ.1 31) - 1).toNatClampNeg) + 1)).1 33)) ((mo_ai (mo_ai σ 27 ((σ.1 31) - 1).toNatClampNeg ((σ.2.2.1 27 ((σ.1 31) - 1).toNatClampNeg) + 1)) 29 ((σ.1 31) - 1).toNatClampNeg ((mo_ai σ 27 ((σ.1 31) - 1).toNatClampNeg ((σ.2.2.1 27 ((σ.1 31) - 1).toNatClampNeg) + 1)).1 33)).2.2.1 10 (σ.2.2.1 26 ((σ.1 31) - 1).toNatClampNeg).toNatClampNeg) ((mo_ai (mo_ai σ 27 ((σ.1 31) - 1).toNatClampNeg ((σ.2.2.1 27 ((σ.1 31) - 1).toNatClampNeg) + 1)) 29 ((σ.1 31) - 1).toNatClampNeg ((mo_ai σ 27 ((σ.1 31) - 1).toNatClampNeg ((σ.2.2.1 27 ((σ.1 31) - 1).toNatClampNeg) + 1)).1 33)).2.2.1 6 (σ.2.2.1 26 ((σ.1 31) - 1).toNatClampNeg).toNatClampNeg) ((mo_ai (mo_ai σ 27 ((σ.1 31) - 1).toNatClampNeg ((σ.2.2.1 27 ((σ.1 31) - 1).toNatClampNeg) + 1)) 29 ((σ.1 31) - 1).toNatClampNeg ((mo_ai σ 27 ((σ.1 31) - 1).toNatClampNeg ((σ.2.2.1 27 ((σ.1 31) - 1).toNatClampNeg) + 1)).1 33)).1 32)) (fun w15 => w15)) else (mbind (F_Mo_ends (mo_ai σ 27 ((σ.1 31) - 1).toNatClampNeg ((σ.2.2.1 27 ((σ.1 31) - 1).toNatClampNeg) + 1)) ((mo_ai σ 27 ((σ.1 31) - 1).toNatClampNeg ((σ.2.2.1 27 ((σ.1 31) - 1).toNatClampNeg) + 1)).1 32) (((mo_ai σ 27 ((σ.1 31) - 1).toNatClampNeg ((σ.2.2.1 27 ((σ.1 31) - 1).toNatClampNeg) + 1)).2.2.1 29 ((σ.1 31) - 1).toNatClampNeg) ||| ((mo_ai σ 27 ((σ.1 31) - 1).toNatClampNeg ((σ.2.2.1 27 ((σ.1 31) - 1).toNatClampNeg) + 1)).1 33))) (fun w10 => w10)))) else (if ((mo_ai σ 27 ((σ.1 31) - 1).toNatClampNeg ((σ.2.2.1 27 ((σ.1 31) - 1).toNatClampNeg) + 1)).2.2.1 5 (σ.2.2.1 26 ((σ.1 31) - 1).toNatClampNeg).toNatClampNeg) = 5 then (mbind (F_Mo_checkRec n (mo_ai σ 27 ((σ.1 31) - 1).toNatClampNeg ((σ.2.2.1 27 ((σ.1 31) - 1).toNatClampNeg) + 1)) ((σ.1 31) - 1) (σ.2.2.1 26 ((σ.1 31) - 1).toNatClampNeg) (σ.2.2.1 27 ((σ.1 31) - 1).toNatClampNeg)) (fun w21 => w21)) else (if ((mo_ai σ 27 ((σ.1 31) - 1).toNatClampNeg ((σ.2.2.1 27 ((σ.1 31) - 1).toNatClampNeg) + 1)).2.2.1 5 (σ.2.2.1 26 ((σ.1 31) - 1).toNatClampNeg).toNatClampNeg) = 6 then (mbind (F_Mo_checkIf n (mo_ai σ 27 ((σ.1 31) - 1).toNatClampNeg ((σ.2.2.1 27 ((σ.1 31) - 1).toNatClampNeg) + 1)) ((σ.1 31) - 1) (σ.2.2.1 26 ((σ.1 31) - 1).toNatClampNeg) (σ.2.2.1 27 ((σ.1 31) - 1).toNatClampNeg)) (fun w24 => w24)) else (if ((mo_ai σ 27 ((σ.1 31) - 1).toNatClampNeg ((σ.2.2.1 27 ((σ.1 31) - 1).toNatClampNeg) + 1)).2.2.1 5 (σ.2.2.1 26 ((σ.1 31) - 1).toNatClampNeg).toNatClampNeg) = 7 then (if (σ.2.2.1 27 ((σ.1 31) - 1).toNatClampNeg) = 0 then (mbind (F_Mo_intoWith n (mo_ai σ 27 ((σ.1 31) - 1).toNatClampNeg ((σ.2.2.1 27 ((σ.1 31) - 1).toNatClampNeg) + 1)) ((mo_ai σ 27 ((σ.1 31) - 1).toNatClampNeg ((σ.2.2.1 27 ((σ.1 31) - 1).toNatClampNeg) + 1)).2.2.1 9 (σ.2.2.1 26 ((σ.1 31) - 1).toNatClampNeg).toNatClampNeg) ((mo_ai σ 27 ((σ.1 31) - 1).toNatClampNeg ((σ.2.2.1 27 ((σ.1 31) - 1).toNatClampNeg) + 1)).2.2.1 6 (σ.2.2.1 26 ((σ.1 31) - 1).toNatClampNeg).toNatClampNeg) ((mo_ai σ 27 ((σ.1 31) - 1).toNatClampNeg ((σ.2.2.1 27 ((σ.1 31) - 1).toNatClampNeg) + 1)).2.2.1 7 (σ.2.2.1 26 ((σ.1 31) - 1).toNatClampNeg).toNatClampNeg)) (fun w36 => w36)) else (mbind (F_Mo_typeOf n (mo_ai σ 27 ((σ.1 31) - 1).toNatClampNeg ((σ.2.2.1 27 ((σ.1 31) - 1).toNatClampNeg) + 1)) ((mo_ai σ 27 ((σ.1 31) - 1).toNatClampNeg ((σ.2.2.1 27 ((σ.1 31) - 1).toNatClampNeg) + 1)).2.2.1 7 (σ.2.2.1 26 ((σ.1 31) - 1).toNatClampNeg).toNatClampNeg) ((mo_ai σ 27 ((σ.1 31) - 1).toNatClampNeg ((σ.2.2.1 27 ((σ.1 31) - 1).toNatClampNeg) + 1)).1 32) ((mo_ai σ 27 ((σ.1 31) - 1).toNatClampNeg ((σ.2.2.1 27 ((σ.1 31) - 1).toNatClampNeg) + 1)).1 33)) (fun w29 => mbind (F_Mo_ends w29.2 w29.1 0) (fun w31 => w31)))) else (if ((mo_ai σ 27 ((σ.1 31) - 1).toNatClampNeg ((σ.2.2.1 27 ((σ.1 31) - 1).toNatClampNeg) + 1)).2.2.1 5 (σ.2.2.1 26 ((σ.1 31) - 1).toNatClampNeg).toNatClampNeg) = 8 then (mbind (F_Mo_checkHandle n (mo_ai σ 27 ((σ.1 31) - 1).toNatClampNeg ((σ.2.2.1 27 ((σ.1 31) - 1).toNatClampNeg) + 1)) ((σ.1 31) - 1) (σ.2.2.1 26 ((σ.1 31) - 1).toNatClampNeg) (σ.2.2.1 27 ((σ.1 31) - 1).toNatClampNeg)) (fun w39 => w39)) else (if ((mo_ai σ 27 ((σ.1 31) - 1).toNatClampNeg ((σ.2.2.1 27 ((σ.1 31) - 1).toNatClampNeg) + 1)).2.2.1 5 (σ.2.2.1 26 ((σ.1 31) - 1).toNatClampNeg).toNatClampNeg) = 9 then (mbind (F_Mo_checkTwo n (mo_ai σ 27 ((σ.1 31) - 1).toNatClampNeg ((σ.2.2.1 27 ((σ.1 31) - 1).toNatClampNeg) + 1)) ((σ.1 31) - 1) (σ.2.2.1 26 ((σ.1 31) - 1).toNatClampNeg) (σ.2.2.1 27 ((σ.1 31) - 1).toNatClampNeg)) (fun w42 => w42)) else (if ((mo_ai σ 27 ((σ.1 31) - 1).toNatClampNeg ((σ.2.2.1 27 ((σ.1 31) - 1).toNatClampNeg) + 1)).2.2.1 5 (σ.2.2.1 26 ((σ.1 31) - 1).toNatClampNeg).toNatClampNeg) = 10 then (mbind (F_Mo_checkCall n (mo_ai σ 27 ((σ.1 31) - 1).toNatClampNeg ((σ.2.2.1 27 ((σ.1 31) - 1).toNatClampNeg) + 1)) ((σ.1 31) - 1) (σ.2.2.1 26 ((σ.1 31) - 1).toNatClampNeg) (σ.2.2.1 27 ((σ.1 31) - 1).toNatClampNeg)) (fun w45 => w45)) else (if ((mo_ai σ 27 ((σ.1 31) - 1).toNatClampNeg ((σ.2.2.1 27 ((σ.1 31) - 1).toNatClampNeg) + 1)).2.2.1 5 (σ.2.2.1 26 ((σ.1 31) - 1).toNatClampNeg).toNatClampNeg) = 11 then (mbind (F_Mo_checkPerform n (mo_ai σ 27 ((σ.1 31) - 1).toNatClampNeg ((σ.2.2.1 27 ((σ.1 31) - 1).toNatClampNeg) + 1)) (σ.2.2.1 26 ((σ.1 31) - 1).toNatClampNeg) (σ.2.2.1 27 ((σ.1 31) - 1).toNatClampNeg)) (fun w48 => w48)) else (mbind (F_Mo_checkAtom (mo_ai σ 27 ((σ.1 31) - 1).toNatClampNeg ((σ.2.2.1 27 ((σ.1 31) - 1).toNatClampNeg) + 1)) ((σ.1 31) - 1) (σ.2.2.1 26 ((σ.1 31) - 1).toNatClampNeg)) (fun w50 => w50)))))))))
def S_Mo_checkStep (n : Nat) (σ : mSt) : Prop := (vp_in ((σ.1 31) - 1) 45) ∧ ((vp_in ((σ.1 31) - 1) 45) ∧ ((vp_in ((σ.1 31) - 1) 45) ∧ ((vp_in ((σ.1 31) - 1) 45) ∧ ((vp_in (σ.2.2.1 26 ((σ.1 31) - 1).toNatClampNeg) 200) ∧ (if ((mo_ai σ 27 ((σ.1 31) - 1).toNatClampNeg ((σ.2.2.1 27 ((σ.1 31) - 1).toNatClampNeg) + 1)).2.2.1 5 (σ.2.2.1 26 ((σ.1 31) - 1).toNatClampNeg).toNatClampNeg) = 4 then (if (σ.2.2.1 27 ((σ.1 31) - 1).toNatClampNeg) = 0 then ((vp_in (σ.2.2.1 26 ((σ.1 31) - 1).toNatClampNeg) 200) ∧ ((S_Mo_into n (mo_ai σ 27 ((σ.1 31) - 1).toNatClampNeg ((σ.2.2.1 27 ((σ.1 31) - 1).toNatClampNeg) + 1)) ((mo_ai σ 27 ((σ.1 31) - 1).toNatClampNeg ((σ.2.2.1 27 ((σ.1 31) - 1).toNatClampNeg) + 1)).2.2.1 9 (σ.2.2.1 26 ((σ.1 31) - 1).toNatClampNeg).toNatClampNeg)) ∧ (mbind (F_Mo_into n (mo_ai σ 27 ((σ.1 31) - 1).toNatClampNeg ((σ.2.2.1 27 ((σ.1 31) - 1).toNatClampNeg) + 1)) ((mo_ai σ 27 ((σ.1 31) - 1).toNatClampNeg ((σ.2.2.1 27 ((σ.1 31) - 1).toNatClampNeg) + 1)).2.2.1 9 (σ.2.2.1 26 ((σ.1 31) - 1).toNatClampNeg).toNatClampNeg)) (fun w18 => True)))) else (if (σ.2.2.1 27 ((σ.1 31) - 1).toNatClampNeg) = 1 then ((vp_in ((σ.1 31) - 1) 45) ∧ ((vp_in (σ.2.2.1 26 ((σ.1 31) - 1).toNatClampNeg) 200) ∧ ((vp_in (σ.2.2.1 26 ((σ.1 31) - 1).toNatClampNeg) 200) ∧ ((S_Mo_intoWith n (mo_ai (mo_ai σ 27 ((σ.1 31) - 1).toNatClampNeg ((σ.2.2.1 27 ((σ.1 31) - 1).toNatClampNeg) + 1)) 29 ((σ.1 31) - 1).toNatClampNeg ((mo_ai σ 27 ((σ.1 31) - 1).toNatClampNeg ((σ.2.2.1 27 ((σ.1 31) - 1).toNatClampNeg) + 1)).1 33)) ((mo_ai (mo_ai σ 27 ((σ.1 31) - 1).toNatClampNeg ((σ.2.2.1 27 ((σ.1 31) - 1).toNatClampNeg) + 1)) 29 ((σ.1 31) - 1).toNatClampNeg ((mo_ai σ 27 ((σ.1 31) - 1).toNatClampNeg ((σ.2.2.1 27 ((σ.1 31) - 1).toNatClampNeg) + 1)).1 33)).2.2.1 10 (σ.2.2.1 26 ((σ.1 31) - 1).toNatClampNeg).toNatClampNeg) ((mo_ai (mo_ai σ 27 ((σ.1 31) - 1).toNatClampNeg ((σ.2.2.1 27 ((σ.1 31) - 1).toNatClampNeg) + 1)) 29 ((σ.1 31) - 1).toNatClampNeg ((mo_ai σ 27 ((σ.1 31) - 1).toNatClampNeg ((σ.2.2.1 27 ((σ.1 31) - 1).toNatClampNeg) + 1)).1 33)).2.2.1 6 (σ.2.2.1 26 ((σ.1 31) - 1).toNatClampNeg).toNatClampNeg) ((mo_ai (mo_ai σ 27 ((σ.1 31) - 1).toNatClampNeg ((σ.2.2.1 27 ((σ.1 31) - 1).toNatClampNeg) + 1)) 29 ((σ.1 31) - 1).toNatClampNeg ((mo_ai σ 27 ((σ.1 31) - 1).toNatClampNeg ((σ.2.2.1 27 ((σ.1 31) - 1).toNatClampNeg) + 1)).1 33)).1 32)) ∧ (mbind (F_Mo_intoWith n (mo_ai (mo_ai σ 27 ((σ.1 31) - 1).toNatClampNeg ((σ.2.2.1 27 ((σ.1 31) - 1).toNatClampNeg) + 1)) 29 ((σ.1 31) - 1).toNatClampNeg ((mo_ai σ 27 ((σ.1 31) - 1).toNatClampNeg ((σ.2.2.1 27 ((σ.1 31) - 1).toNatClampNeg) + 1)).1 33)) ((mo_ai (mo_ai σ 27 ((σ.1 31) - 1).toNatClampNeg ((σ.2.2.1 27 ((σ.1 31) - 1).toNatClampNeg) + 1)) 29 ((σ.1 31) - 1).toNatClampNeg ((mo_ai σ 27 ((σ.1 31) - 1).toNatClampNeg ((σ.2.2.1 27 ((σ.1 31) - 1).toNatClampNeg) + 1)).1 33)).2.2.1 10 (σ.2.2.1 26 ((σ.1 31) - 1).toNatClampNeg).toNatClampNeg) ((mo_ai (mo_ai σ 27 ((σ.1 31) - 1).toNatClampNeg ((σ.2.2.1 27 ((σ.1 31) - 1).toNatClampNeg) + 1)) 29 ((σ.1 31) - 1).toNatClampNeg ((mo_ai σ 27 ((σ.1 31) - 1).toNatClampNeg ((σ.2.2.1 27 ((σ.1 31) - 1).toNatClampNeg) + 1)).1 33)).2.2.1 6 (σ.2.2.1 26 ((σ.1 31) - 1).toNatClampNeg).toNatClampNeg) ((mo_ai (mo_ai σ 27 ((σ.1 31) - 1).toNatClampNeg ((σ.2.2.1 27 ((σ.1 31) - 1).toNatClampNeg) + 1)) 29 ((σ.1 31) - 1).toNatClampNeg ((mo_ai σ 27 ((σ.1 31) - 1).toNatClampNeg ((σ.2.2.1 27 ((σ.1 31) - 1).toNatClampNeg) + 1)).1 33)).1 32)) (fun w15 => True)))))) else ((vp_in ((σ.1 31) - 1) 45) ∧ ((S_Mo_ends (mo_ai σ 27 ((σ.1 31) - 1).toNatClampNeg ((σ.2.2.1 27 ((σ.1 31) - 1).toNatClampNeg) + 1)) ((mo_ai σ 27 ((σ.1 31) - 1).toNatClampNeg ((σ.2.2.1 27 ((σ.1 31) - 1).toNatClampNeg) + 1)).1 32) (((mo_ai σ 27 ((σ.1 31) - 1).toNatClampNeg ((σ.2.2.1 27 ((σ.1 31) - 1).toNatClampNeg) + 1)).2.2.1 29 ((σ.1 31) - 1).toNatClampNeg) ||| ((mo_ai σ 27 ((σ.1 31) - 1).toNatClampNeg ((σ.2.2.1 27 ((σ.1 31) - 1).toNatClampNeg) + 1)).1 33))) ∧ (mbind (F_Mo_ends (mo_ai σ 27 ((σ.1 31) - 1).toNatClampNeg ((σ.2.2.1 27 ((σ.1 31) - 1).toNatClampNeg) + 1)) ((mo_ai σ 27 ((σ.1 31) - 1).toNatClampNeg ((σ.2.2.1 27 ((σ.1 31) - 1).toNatClampNeg) + 1)).1 32) (((mo_ai σ 27 ((σ.1 31) - 1).toNatClampNeg ((σ.2.2.1 27 ((σ.1 31) - 1).toNatClampNeg) + 1)).2.2.1 29 ((σ.1 31) - 1).toNatClampNeg) ||| ((mo_ai σ 27 ((σ.1 31) - 1).toNatClampNeg ((σ.2.2.1 27 ((σ.1 31) - 1).toNatClampNeg) + 1)).1 33))) (fun w10 => True)))))) else (if ((mo_ai σ 27 ((σ.1 31) - 1).toNatClampNeg ((σ.2.2.1 27 ((σ.1 31) - 1).toNatClampNeg) + 1)).2.2.1 5 (σ.2.2.1 26 ((σ.1 31) - 1).toNatClampNeg).toNatClampNeg) = 5 then ((S_Mo_checkRec n (mo_ai σ 27 ((σ.1 31) - 1).toNatClampNeg ((σ.2.2.1 27 ((σ.1 31) - 1).toNatClampNeg) + 1)) ((σ.1 31) - 1) (σ.2.2.1 26 ((σ.1 31) - 1).toNatClampNeg) (σ.2.2.1 27 ((σ.1 31) - 1).toNatClampNeg)) ∧ (mbind (F_Mo_checkRec n (mo_ai σ 27 ((σ.1 31) - 1).toNatClampNeg ((σ.2.2.1 27 ((σ.1 31) - 1).toNatClampNeg) + 1)) ((σ.1 31) - 1) (σ.2.2.1 26 ((σ.1 31) - 1).toNatClampNeg) (σ.2.2.1 27 ((σ.1 31) - 1).toNatClampNeg)) (fun w21 => True))) else (if ((mo_ai σ 27 ((σ.1 31) - 1).toNatClampNeg ((σ.2.2.1 27 ((σ.1 31) - 1).toNatClampNeg) + 1)).2.2.1 5 (σ.2.2.1 26 ((σ.1 31) - 1).toNatClampNeg).toNatClampNeg) = 6 then ((S_Mo_checkIf n (mo_ai σ 27 ((σ.1 31) - 1).toNatClampNeg ((σ.2.2.1 27 ((σ.1 31) - 1).toNatClampNeg) + 1)) ((σ.1 31) - 1) (σ.2.2.1 26 ((σ.1 31) - 1).toNatClampNeg) (σ.2.2.1 27 ((σ.1 31) - 1).toNatClampNeg)) ∧ (mbind (F_Mo_checkIf n (mo_ai σ 27 ((σ.1 31) - 1).toNatClampNeg ((σ.2.2.1 27 ((σ.1 31) - 1).toNatClampNeg) + 1)) ((σ.1 31) - 1) (σ.2.2.1 26 ((σ.1 31) - 1).toNatClampNeg) (σ.2.2.1 27 ((σ.1 31) - 1).toNatClampNeg)) (fun w24 => True))) else (if ((mo_ai σ 27 ((σ.1 31) - 1).toNatClampNeg ((σ.2.2.1 27 ((σ.1 31) - 1).toNatClampNeg) + 1)).2.2.1 5 (σ.2.2.1 26 ((σ.1 31) - 1).toNatClampNeg).toNatClampNeg) = 7 then (if (σ.2.2.1 27 ((σ.1 31) - 1).toNatClampNeg) = 0 then ((vp_in (σ.2.2.1 26 ((σ.1 31) - 1).toNatClampNeg) 200) ∧ ((vp_in (σ.2.2.1 26 ((σ.1 31) - 1).toNatClampNeg) 200) ∧ ((vp_in (σ.2.2.1 26 ((σ.1 31) - 1).toNatClampNeg) 200) ∧ ((S_Mo_intoWith n (mo_ai σ 27 ((σ.1 31) - 1).toNatClampNeg ((σ.2.2.1 27 ((σ.1 31) - 1).toNatClampNeg) + 1)) ((mo_ai σ 27 ((σ.1 31) - 1).toNatClampNeg ((σ.2.2.1 27 ((σ.1 31) - 1).toNatClampNeg) + 1)).2.2.1 9 (σ.2.2.1 26 ((σ.1 31) - 1).toNatClampNeg).toNatClampNeg) ((mo_ai σ 27 ((σ.1 31) - 1).toNatClampNeg ((σ.2.2.1 27 ((σ.1 31) - 1).toNatClampNeg) + 1)).2.2.1 6 (σ.2.2.1 26 ((σ.1 31) - 1).toNatClampNeg).toNatClampNeg) ((mo_ai σ 27 ((σ.1 31) - 1).toNatClampNeg ((σ.2.2.1 27 ((σ.1 31) - 1).toNatClampNeg) + 1)).2.2.1 7 (σ.2.2.1 26 ((σ.1 31) - 1).toNatClampNeg).toNatClampNeg)) ∧ (mbind (F_Mo_intoWith n (mo_ai σ 27 ((σ.1 31) - 1).toNatClampNeg ((σ.2.2.1 27 ((σ.1 31) - 1).toNatClampNeg) + 1)) ((mo_ai σ 27 ((σ.1 31) - 1).toNatClampNeg ((σ.2.2.1 27 ((σ.1 31) - 1).toNatClampNeg) + 1)).2.2.1 9 (σ.2.2.1 26 ((σ.1 31) - 1).toNatClampNeg).toNatClampNeg) ((mo_ai σ 27 ((σ.1 31) - 1).toNatClampNeg ((σ.2.2.1 27 ((σ.1 31) - 1).toNatClampNeg) + 1)).2.2.1 6 (σ.2.2.1 26 ((σ.1 31) - 1).toNatClampNeg).toNatClampNeg) ((mo_ai σ 27 ((σ.1 31) - 1).toNatClampNeg ((σ.2.2.1 27 ((σ.1 31) - 1).toNatClampNeg) + 1)).2.2.1 7 (σ.2.2.1 26 ((σ.1 31) - 1).toNatClampNeg).toNatClampNeg)) (fun w36 => True)))))) else ((vp_in (σ.2.2.1 26 ((σ.1 31) - 1).toNatClampNeg) 200) ∧ ((S_Mo_typeOf n (mo_ai σ 27 ((σ.1 31) - 1).toNatClampNeg ((σ.2.2.1 27 ((σ.1 31) - 1).toNatClampNeg) + 1)) ((mo_ai σ 27 ((σ.1 31) - 1).toNatClampNeg ((σ.2.2.1 27 ((σ.1 31) - 1).toNatClampNeg) + 1)).2.2.1 7 (σ.2.2.1 26 ((σ.1 31) - 1).toNatClampNeg).toNatClampNeg) ((mo_ai σ 27 ((σ.1 31) - 1).toNatClampNeg ((σ.2.2.1 27 ((σ.1 31) - 1).toNatClampNeg) + 1)).1 32) ((mo_ai σ 27 ((σ.1 31) - 1).toNatClampNeg ((σ.2.2.1 27 ((σ.1 31) - 1).toNatClampNeg) + 1)).1 33)) ∧ (mbind (F_Mo_typeOf n (mo_ai σ 27 ((σ.1 31) - 1).toNatClampNeg ((σ.2.2.1 27 ((σ.1 31) - 1).toNatClampNeg) + 1)) ((mo_ai σ 27 ((σ.1 31) - 1).toNatClampNeg ((σ.2.2.1 27 ((σ.1 31) - 1).toNatClampNeg) + 1)).2.2.1 7 (σ.2.2.1 26 ((σ.1 31) - 1).toNatClampNeg).toNatClampNeg) ((mo_ai σ 27 ((σ.1 31) - 1).toNatClampNeg ((σ.2.2.1 27 ((σ.1 31) - 1).toNatClampNeg) + 1)).1 32) ((mo_ai σ 27 ((σ.1 31) - 1).toNatClampNeg ((σ.2.2.1 27 ((σ.1 31) - 1).toNatClampNeg) + 1)).1 33)) (fun w29 => (S_Mo_ends w29.2 w29.1 0) ∧ (mbind (F_Mo_ends w29.2 w29.1 0) (fun w31 => True))))))) else (if ((mo_ai σ 27 ((σ.1 31) - 1).toNatClampNeg ((σ.2.2.1 27 ((σ.1 31) - 1).toNatClampNeg) + 1)).2.2.1 5 (σ.2.2.1 26 ((σ.1 31) - 1).toNatClampNeg).toNatClampNeg) = 8 then ((S_Mo_checkHandle n (mo_ai σ 27 ((σ.1 31) - 1).toNatClampNeg ((σ.2.2.1 27 ((σ.1 31) - 1).toNatClampNeg) + 1)) ((σ.1 31) - 1) (σ.2.2.1 26 ((σ.1 31) - 1).toNatClampNeg) (σ.2.2.1 27 ((σ.1 31) - 1).toNatClampNeg)) ∧ (mbind (F_Mo_checkHandle n (mo_ai σ 27 ((σ.1 31) - 1).toNatClampNeg ((σ.2.2.1 27 ((σ.1 31) - 1).toNatClampNeg) + 1)) ((σ.1 31) - 1) (σ.2.2.1 26 ((σ.1 31) - 1).toNatClampNeg) (σ.2.2.1 27 ((σ.1 31) - 1).toNatClampNeg)) (fun w39 => True))) else (if ((mo_ai σ 27 ((σ.1 31) - 1).toNatClampNeg ((σ.2.2.1 27 ((σ.1 31) - 1).toNatClampNeg) + 1)).2.2.1 5 (σ.2.2.1 26 ((σ.1 31) - 1).toNatClampNeg).toNatClampNeg) = 9 then ((S_Mo_checkTwo n (mo_ai σ 27 ((σ.1 31) - 1).toNatClampNeg ((σ.2.2.1 27 ((σ.1 31) - 1).toNatClampNeg) + 1)) ((σ.1 31) - 1) (σ.2.2.1 26 ((σ.1 31) - 1).toNatClampNeg) (σ.2.2.1 27 ((σ.1 31) - 1).toNatClampNeg)) ∧ (mbind (F_Mo_checkTwo n (mo_ai σ 27 ((σ.1 31) - 1).toNatClampNeg ((σ.2.2.1 27 ((σ.1 31) - 1).toNatClampNeg) + 1)) ((σ.1 31) - 1) (σ.2.2.1 26 ((σ.1 31) - 1).toNatClampNeg) (σ.2.2.1 27 ((σ.1 31) - 1).toNatClampNeg)) (fun w42 => True))) else (if ((mo_ai σ 27 ((σ.1 31) - 1).toNatClampNeg ((σ.2.2.1 27 ((σ.1 31) - 1).toNatClampNeg) + 1)).2.2.1 5 (σ.2.2.1 26 ((σ.1 31) - 1).toNatClampNeg).toNatClampNeg) = 10 then ((S_Mo_checkCall n (mo_ai σ 27 ((σ.1 31) - 1).toNatClampNeg ((σ.2.2.1 27 ((σ.1 31) - 1).toNatClampNeg) + 1)) ((σ.1 31) - 1) (σ.2.2.1 26 ((σ.1 31) - 1).toNatClampNeg) (σ.2.2.1 27 ((σ.1 31) - 1).toNatClampNeg)) ∧ (mbind (F_Mo_checkCall n (mo_ai σ 27 ((σ.1 31) - 1).toNatClampNeg ((σ.2.2.1 27 ((σ.1 31) - 1).toNatClampNeg) + 1)) ((σ.1 31) - 1) (σ.2.2.1 26 ((σ.1 31) - 1).toNatClampNeg) (σ.2.2.1 27 ((σ.1 31) - 1).toNatClampNeg)) (fun w45 => True))) else (if ((mo_ai σ 27 ((σ.1 31) - 1).toNatClampNeg ((σ.2.2.1 27 ((σ.1 31) - 1).toNatClampNeg) + 1)).2.2.1 5 (σ.2.2.1 26 ((σ.1 31) - 1).toNatClampNeg).toNatClampNeg) = 11 then ((S_Mo_checkPerform n (mo_ai σ 27 ((σ.1 31) - 1).toNatClampNeg ((σ.2.2.1 27 ((σ.1 31) - 1).toNatClampNeg) + 1)) (σ.2.2.1 26 ((σ.1 31) - 1).toNatClampNeg) (σ.2.2.1 27 ((σ.1 31) - 1).toNatClampNeg)) ∧ (mbind (F_Mo_checkPerform n (mo_ai σ 27 ((σ.1 31) - 1).toNatClampNeg ((σ.2.2.1 27 ((σ.1 31) - 1).toNatClampNeg) + 1)) (σ.2.2.1 26 ((σ.1 31) - 1).toNatClampNeg) (σ.2.2.1 27 ((σ.1 31) - 1).toNatClampNeg)) (fun w48 => True))) else ((S_Mo_checkAtom (mo_ai σ 27 ((σ.1 31) - 1).toNatClampNeg ((σ.2.2.1 27 ((σ.1 31) - 1).toNatClampNeg) + 1)) ((σ.1 31) - 1) (σ.2.2.1 26 ((σ.1 31) - 1).toNatClampNeg)) ∧ (mbind (F_Mo_checkAtom (mo_ai σ 27 ((σ.1 31) - 1).toNatClampNeg ((σ.2.2.1 27 ((σ.1 31) - 1).toNatClampNeg) + 1)) ((σ.1 31) - 1) (σ.2.2.1 26 ((σ.1 31) - 1).toNatClampNeg)) (fun w50 => True)))))))))))))))
set_option maxRecDepth 100000 in
set_option maxHeartbeats 4000000 in
theorem mc_Mo_checkStep (l : Launch) (D : va_G) (cs : Nat → ClassId) (B : Nat) (dE : Nat × Nat) (mo : Nat) (ad : Nat → Nat) (n : Nat) (σ : mSt) (hS : S_Mo_checkStep n σ) : mMet l y_Mo_checkStep (Cond.code y_Mo_checkStep c_Mo_checkStep 4 none) ({ frames := 4, cells := 0, slots := 0, locals := 98 } : Room) D cs B dE mo ad [.ref mo] σ (fun r σ' => r = none ∧ σ' = F_Mo_checkStep n σ) := by
  refine mMet.ofW (by decide) rfl (Nat.le_of_ble_eq_true rfl) (lv0 := [(0, .ref mo)]) rfl ?_
  intro p e s m args below meth c M0 C hE hr hlocks
  generalize hF : F_Mo_checkStep n σ = Fv
  unfold F_Mo_checkStep at hF
  unfold S_Mo_checkStep at hS
  refine g_aload_n C d_Mo_checkStep_0 rfl ?_
  refine m_geti C hE 31 (by decide) (by decide) kf_Mo_220 d_Mo_checkStep_1 ?_
  refine g_iconst (v := 1) C d_Mo_checkStep_4 (by decide) ?_
  refine g_isub C d_Mo_checkStep_5 ?_
  refine g_istore_n (lv' := [(1, .int ((σ.1 31) - 1)), (0, .ref mo)]) C d_Mo_checkStep_6 (by decide) rfl ?_
  refine g_aload_n C d_Mo_checkStep_7 rfl ?_
  refine m_geta C hE 26 (by decide) (by decide) (by decide) kf_Mo_75 d_Mo_checkStep_8 ?_
  refine g_iload_n C d_Mo_checkStep_11 rfl ?_
  obtain ⟨hi1, hS⟩ := hS
  refine m_ald C hE 26 (by decide) (by decide) hi1 d_Mo_checkStep_12 ?_
  refine g_istore_n (lv' := [(2, .int (σ.2.2.1 26 ((σ.1 31) - 1).toNatClampNeg)), (1, .int ((σ.1 31) - 1)), (0, .ref mo)]) C d_Mo_checkStep_13 (by decide) rfl ?_
  refine g_aload_n C d_Mo_checkStep_14 rfl ?_
  refine m_geta C hE 27 (by decide) (by decide) (by decide) kf_Mo_78 d_Mo_checkStep_15 ?_
  refine g_iload_n C d_Mo_checkStep_18 rfl ?_
  obtain ⟨hi2, hS⟩ := hS
  refine m_ald C hE 27 (by decide) (by decide) hi2 d_Mo_checkStep_19 ?_
  refine g_istore_n (lv' := [(3, .int (σ.2.2.1 27 ((σ.1 31) - 1).toNatClampNeg)), (2, .int (σ.2.2.1 26 ((σ.1 31) - 1).toNatClampNeg)), (1, .int ((σ.1 31) - 1)), (0, .ref mo)]) C d_Mo_checkStep_20 (by decide) rfl ?_
  refine g_aload_n C d_Mo_checkStep_21 rfl ?_
  refine m_geta C hE 27 (by decide) (by decide) (by decide) kf_Mo_78 d_Mo_checkStep_22 ?_
  refine g_iload_n C d_Mo_checkStep_25 rfl ?_
  refine g_dup2_11 C d_Mo_checkStep_26 rfl rfl ?_
  obtain ⟨hi3, hS⟩ := hS
  refine m_ald C hE 27 (by decide) (by decide) hi3 d_Mo_checkStep_27 ?_
  refine g_iconst (v := 1) C d_Mo_checkStep_28 (by decide) ?_
  refine g_iadd C d_Mo_checkStep_29 ?_
  obtain ⟨hi4, hS⟩ := hS
  refine m_ast C hE 27 (by decide) (by decide) hi4 d_Mo_checkStep_30 ?_
  refine g_aload_n C d_Mo_checkStep_31 rfl ?_
  refine m_geta C hE 5 (by decide) (by decide) (by decide) kf_Mo_7 d_Mo_checkStep_32 ?_
  refine g_iload_n C d_Mo_checkStep_35 rfl ?_
  obtain ⟨hi5, hS⟩ := hS
  refine m_ald C hE 5 (by decide) (by decide) hi5 d_Mo_checkStep_36 ?_
  by_cases hc6 : ((mo_ai σ 27 ((σ.1 31) - 1).toNatClampNeg ((σ.2.2.1 27 ((σ.1 31) - 1).toNatClampNeg) + 1)).2.2.1 5 (σ.2.2.1 26 ((σ.1 31) - 1).toNatClampNeg).toNatClampNeg) = 4
  · rw [if_pos hc6] at hF hS
    refine g_tableIn C 84 d_Mo_checkStep_37 (by rw [hc6]; decide) (by rw [hc6]; decide) (by rw [hc6]; rfl) (by decide) ?_
    refine g_iload_n C d_Mo_checkStep_84 rfl ?_
    refine g_if_ne C 101 d_Mo_checkStep_85 (by decide) (fun hc7 => ?_) (fun hc7 => ?_)
    · rw [if_neg hc7] at hF hS
      refine g_iload_n C d_Mo_checkStep_101 rfl ?_
      refine g_iconst (v := 1) C d_Mo_checkStep_102 (by decide) ?_
      refine g_icmp_ne C 139 d_Mo_checkStep_103 (by decide) (fun hc8 => ?_) (fun hc8 => ?_)
      · rw [if_neg hc8] at hF hS
        refine g_aload_n C d_Mo_checkStep_139 rfl ?_
        refine g_aload_n C d_Mo_checkStep_140 rfl ?_
        refine m_geti C hE 32 (by decide) (by decide) kf_Mo_227 d_Mo_checkStep_141 ?_
        refine g_aload_n C d_Mo_checkStep_144 rfl ?_
        refine m_geta C hE 29 (by decide) (by decide) (by decide) kf_Mo_84 d_Mo_checkStep_145 ?_
        refine g_iload_n C d_Mo_checkStep_148 rfl ?_
        obtain ⟨hi9, hS⟩ := hS
        refine m_ald C hE 29 (by decide) (by decide) hi9 d_Mo_checkStep_149 ?_
        refine g_aload_n C d_Mo_checkStep_150 rfl ?_
        refine m_geti C hE 33 (by decide) (by decide) kf_Mo_230 d_Mo_checkStep_151 ?_
        refine g_ior C d_Mo_checkStep_154 ?_
        obtain ⟨hs11, hS⟩ := hS
        refine m_callV (n := 2) (av := [.int ((mo_ai σ 27 ((σ.1 31) - 1).toNatClampNeg ((σ.2.2.1 27 ((σ.1 31) - 1).toNatClampNeg) + 1)).1 32), .int (((mo_ai σ 27 ((σ.1 31) - 1).toNatClampNeg ((σ.2.2.1 27 ((σ.1 31) - 1).toNatClampNeg) + 1)).2.2.1 29 ((σ.1 31) - 1).toNatClampNeg) ||| ((mo_ai σ 27 ((σ.1 31) - 1).toNatClampNeg ((σ.2.2.1 27 ((σ.1 31) - 1).toNatClampNeg) + 1)).1 33))]) (rest := []) C hE (mc_Mo_ends l D cs B dE mo ad _ _ _ hs11) km_Mo_240 kv_Mo_ends kl_Mo_ends kd_Mo_ends ki_Mo ⟨rfl, by decide, by decide, by decide⟩ rfl ⟨rfl, rfl⟩ (by decide) (by decide) d_Mo_checkStep_155 (Nat.le_of_ble_eq_true rfl) _ rfl (fun v1 σ1 hv => ?_)
        obtain ⟨rfl, rfl⟩ := hv
        rw [mbind_eq] at hF hS
        generalize F_Mo_ends (mo_ai σ 27 ((σ.1 31) - 1).toNatClampNeg ((σ.2.2.1 27 ((σ.1 31) - 1).toNatClampNeg) + 1)) ((mo_ai σ 27 ((σ.1 31) - 1).toNatClampNeg ((σ.2.2.1 27 ((σ.1 31) - 1).toNatClampNeg) + 1)).1 32) (((mo_ai σ 27 ((σ.1 31) - 1).toNatClampNeg ((σ.2.2.1 27 ((σ.1 31) - 1).toNatClampNeg) + 1)).2.2.1 29 ((σ.1 31) - 1).toNatClampNeg) ||| ((mo_ai σ 27 ((σ.1 31) - 1).toNatClampNeg ((σ.2.2.1 27 ((σ.1 31) - 1).toNatClampNeg) + 1)).1 33)) = w10 at hF hS ⊢
        refine GW.eqs (st' := []) rfl ?_
        refine g_goto C 281 d_Mo_checkStep_158 (by decide) ?_
        exact m_vret C hr hlocks d_Mo_checkStep_281 (by rw [← hF]; exact ⟨rfl, rfl⟩)
      · rw [if_pos hc8] at hF hS
        refine g_aload_n C d_Mo_checkStep_106 rfl ?_
        refine m_geta C hE 29 (by decide) (by decide) (by decide) kf_Mo_84 d_Mo_checkStep_107 ?_
        refine g_iload_n C d_Mo_checkStep_110 rfl ?_
        refine g_aload_n C d_Mo_checkStep_111 rfl ?_
        refine m_geti C hE 33 (by decide) (by decide) kf_Mo_230 d_Mo_checkStep_112 ?_
        obtain ⟨hi12, hS⟩ := hS
        refine m_ast C hE 29 (by decide) (by decide) hi12 d_Mo_checkStep_115 ?_
        refine g_aload_n C d_Mo_checkStep_116 rfl ?_
        refine g_aload_n C d_Mo_checkStep_117 rfl ?_
        refine m_geta C hE 10 (by decide) (by decide) (by decide) kf_Mo_25 d_Mo_checkStep_118 ?_
        refine g_iload_n C d_Mo_checkStep_121 rfl ?_
        obtain ⟨hi13, hS⟩ := hS
        refine m_ald C hE 10 (by decide) (by decide) hi13 d_Mo_checkStep_122 ?_
        refine g_aload_n C d_Mo_checkStep_123 rfl ?_
        refine m_geta C hE 6 (by decide) (by decide) (by decide) kf_Mo_13 d_Mo_checkStep_124 ?_
        refine g_iload_n C d_Mo_checkStep_127 rfl ?_
        obtain ⟨hi14, hS⟩ := hS
        refine m_ald C hE 6 (by decide) (by decide) hi14 d_Mo_checkStep_128 ?_
        refine g_aload_n C d_Mo_checkStep_129 rfl ?_
        refine m_geti C hE 32 (by decide) (by decide) kf_Mo_227 d_Mo_checkStep_130 ?_
        obtain ⟨hs16, hS⟩ := hS
        refine m_callV (n := 3) (av := [.int ((mo_ai (mo_ai σ 27 ((σ.1 31) - 1).toNatClampNeg ((σ.2.2.1 27 ((σ.1 31) - 1).toNatClampNeg) + 1)) 29 ((σ.1 31) - 1).toNatClampNeg ((mo_ai σ 27 ((σ.1 31) - 1).toNatClampNeg ((σ.2.2.1 27 ((σ.1 31) - 1).toNatClampNeg) + 1)).1 33)).2.2.1 10 (σ.2.2.1 26 ((σ.1 31) - 1).toNatClampNeg).toNatClampNeg), .int ((mo_ai (mo_ai σ 27 ((σ.1 31) - 1).toNatClampNeg ((σ.2.2.1 27 ((σ.1 31) - 1).toNatClampNeg) + 1)) 29 ((σ.1 31) - 1).toNatClampNeg ((mo_ai σ 27 ((σ.1 31) - 1).toNatClampNeg ((σ.2.2.1 27 ((σ.1 31) - 1).toNatClampNeg) + 1)).1 33)).2.2.1 6 (σ.2.2.1 26 ((σ.1 31) - 1).toNatClampNeg).toNatClampNeg), .int ((mo_ai (mo_ai σ 27 ((σ.1 31) - 1).toNatClampNeg ((σ.2.2.1 27 ((σ.1 31) - 1).toNatClampNeg) + 1)) 29 ((σ.1 31) - 1).toNatClampNeg ((mo_ai σ 27 ((σ.1 31) - 1).toNatClampNeg ((σ.2.2.1 27 ((σ.1 31) - 1).toNatClampNeg) + 1)).1 33)).1 32)]) (rest := []) C hE (mc_Mo_intoWith l D cs B dE mo ad n _ _ _ _ hs16) km_Mo_233 kv_Mo_intoWith kl_Mo_intoWith kd_Mo_intoWith ki_Mo ⟨rfl, by decide, by decide, by decide⟩ rfl ⟨rfl, rfl⟩ (by decide) (by decide) d_Mo_checkStep_133 (Nat.le_of_ble_eq_true rfl) _ rfl (fun v1 σ1 hv => ?_)
        obtain ⟨rfl, rfl⟩ := hv
        rw [mbind_eq] at hF hS
        generalize F_Mo_intoWith n (mo_ai (mo_ai σ 27 ((σ.1 31) - 1).toNatClampNeg ((σ.2.2.1 27 ((σ.1 31) - 1).toNatClampNeg) + 1)) 29 ((σ.1 31) - 1).toNatClampNeg ((mo_ai σ 27 ((σ.1 31) - 1).toNatClampNeg ((σ.2.2.1 27 ((σ.1 31) - 1).toNatClampNeg) + 1)).1 33)) ((mo_ai (mo_ai σ 27 ((σ.1 31) - 1).toNatClampNeg ((σ.2.2.1 27 ((σ.1 31) - 1).toNatClampNeg) + 1)) 29 ((σ.1 31) - 1).toNatClampNeg ((mo_ai σ 27 ((σ.1 31) - 1).toNatClampNeg ((σ.2.2.1 27 ((σ.1 31) - 1).toNatClampNeg) + 1)).1 33)).2.2.1 10 (σ.2.2.1 26 ((σ.1 31) - 1).toNatClampNeg).toNatClampNeg) ((mo_ai (mo_ai σ 27 ((σ.1 31) - 1).toNatClampNeg ((σ.2.2.1 27 ((σ.1 31) - 1).toNatClampNeg) + 1)) 29 ((σ.1 31) - 1).toNatClampNeg ((mo_ai σ 27 ((σ.1 31) - 1).toNatClampNeg ((σ.2.2.1 27 ((σ.1 31) - 1).toNatClampNeg) + 1)).1 33)).2.2.1 6 (σ.2.2.1 26 ((σ.1 31) - 1).toNatClampNeg).toNatClampNeg) ((mo_ai (mo_ai σ 27 ((σ.1 31) - 1).toNatClampNeg ((σ.2.2.1 27 ((σ.1 31) - 1).toNatClampNeg) + 1)) 29 ((σ.1 31) - 1).toNatClampNeg ((mo_ai σ 27 ((σ.1 31) - 1).toNatClampNeg ((σ.2.2.1 27 ((σ.1 31) - 1).toNatClampNeg) + 1)).1 33)).1 32) = w15 at hF hS ⊢
        refine GW.eqs (st' := []) rfl ?_
        refine g_goto C 281 d_Mo_checkStep_136 (by decide) ?_
        exact m_vret C hr hlocks d_Mo_checkStep_281 (by rw [← hF]; exact ⟨rfl, rfl⟩)
    · rw [if_pos hc7] at hF hS
      refine g_aload_n C d_Mo_checkStep_88 rfl ?_
      refine g_aload_n C d_Mo_checkStep_89 rfl ?_
      refine m_geta C hE 9 (by decide) (by decide) (by decide) kf_Mo_22 d_Mo_checkStep_90 ?_
      refine g_iload_n C d_Mo_checkStep_93 rfl ?_
      obtain ⟨hi17, hS⟩ := hS
      refine m_ald C hE 9 (by decide) (by decide) hi17 d_Mo_checkStep_94 ?_
      obtain ⟨hs19, hS⟩ := hS
      refine m_callV (n := 1) (av := [.int ((mo_ai σ 27 ((σ.1 31) - 1).toNatClampNeg ((σ.2.2.1 27 ((σ.1 31) - 1).toNatClampNeg) + 1)).2.2.1 9 (σ.2.2.1 26 ((σ.1 31) - 1).toNatClampNeg).toNatClampNeg)]) (rest := []) C hE (mc_Mo_into l D cs B dE mo ad n _ _ hs19) km_Mo_223 kv_Mo_into kl_Mo_into kd_Mo_into ki_Mo ⟨rfl, by decide, by decide, by decide⟩ rfl ⟨rfl, rfl⟩ (by decide) (by decide) d_Mo_checkStep_95 (Nat.le_of_ble_eq_true rfl) _ rfl (fun v1 σ1 hv => ?_)
      obtain ⟨rfl, rfl⟩ := hv
      rw [mbind_eq] at hF hS
      generalize F_Mo_into n (mo_ai σ 27 ((σ.1 31) - 1).toNatClampNeg ((σ.2.2.1 27 ((σ.1 31) - 1).toNatClampNeg) + 1)) ((mo_ai σ 27 ((σ.1 31) - 1).toNatClampNeg ((σ.2.2.1 27 ((σ.1 31) - 1).toNatClampNeg) + 1)).2.2.1 9 (σ.2.2.1 26 ((σ.1 31) - 1).toNatClampNeg).toNatClampNeg) = w18 at hF hS ⊢
      refine GW.eqs (st' := []) rfl ?_
      refine g_goto C 281 d_Mo_checkStep_98 (by decide) ?_
      exact m_vret C hr hlocks d_Mo_checkStep_281 (by rw [← hF]; exact ⟨rfl, rfl⟩)
  · rw [if_neg hc6] at hF hS
    by_cases hc20 : ((mo_ai σ 27 ((σ.1 31) - 1).toNatClampNeg ((σ.2.2.1 27 ((σ.1 31) - 1).toNatClampNeg) + 1)).2.2.1 5 (σ.2.2.1 26 ((σ.1 31) - 1).toNatClampNeg).toNatClampNeg) = 5
    · rw [if_pos hc20] at hF hS
      refine g_tableIn C 161 d_Mo_checkStep_37 (by rw [hc20]; decide) (by rw [hc20]; decide) (by rw [hc20]; rfl) (by decide) ?_
      refine g_aload_n C d_Mo_checkStep_161 rfl ?_
      refine g_iload_n C d_Mo_checkStep_162 rfl ?_
      refine g_iload_n C d_Mo_checkStep_163 rfl ?_
      refine g_iload_n C d_Mo_checkStep_164 rfl ?_
      obtain ⟨hs22, hS⟩ := hS
      refine m_callV (n := 3) (av := [.int ((σ.1 31) - 1), .int (σ.2.2.1 26 ((σ.1 31) - 1).toNatClampNeg), .int (σ.2.2.1 27 ((σ.1 31) - 1).toNatClampNeg)]) (rest := []) C hE (mc_Mo_checkRec l D cs B dE mo ad n _ _ _ _ hs22) km_Mo_250 kv_Mo_checkRec kl_Mo_checkRec kd_Mo_checkRec ki_Mo ⟨rfl, by decide, by decide, by decide⟩ rfl ⟨rfl, rfl⟩ (by decide) (by decide) d_Mo_checkStep_165 (Nat.le_of_ble_eq_true rfl) _ rfl (fun v1 σ1 hv => ?_)
      obtain ⟨rfl, rfl⟩ := hv
      rw [mbind_eq] at hF hS
      generalize F_Mo_checkRec n (mo_ai σ 27 ((σ.1 31) - 1).toNatClampNeg ((σ.2.2.1 27 ((σ.1 31) - 1).toNatClampNeg) + 1)) ((σ.1 31) - 1) (σ.2.2.1 26 ((σ.1 31) - 1).toNatClampNeg) (σ.2.2.1 27 ((σ.1 31) - 1).toNatClampNeg) = w21 at hF hS ⊢
      refine GW.eqs (st' := []) rfl ?_
      refine g_goto C 281 d_Mo_checkStep_168 (by decide) ?_
      exact m_vret C hr hlocks d_Mo_checkStep_281 (by rw [← hF]; exact ⟨rfl, rfl⟩)
    · rw [if_neg hc20] at hF hS
      by_cases hc23 : ((mo_ai σ 27 ((σ.1 31) - 1).toNatClampNeg ((σ.2.2.1 27 ((σ.1 31) - 1).toNatClampNeg) + 1)).2.2.1 5 (σ.2.2.1 26 ((σ.1 31) - 1).toNatClampNeg).toNatClampNeg) = 6
      · rw [if_pos hc23] at hF hS
        refine g_tableIn C 171 d_Mo_checkStep_37 (by rw [hc23]; decide) (by rw [hc23]; decide) (by rw [hc23]; rfl) (by decide) ?_
        refine g_aload_n C d_Mo_checkStep_171 rfl ?_
        refine g_iload_n C d_Mo_checkStep_172 rfl ?_
        refine g_iload_n C d_Mo_checkStep_173 rfl ?_
        refine g_iload_n C d_Mo_checkStep_174 rfl ?_
        obtain ⟨hs25, hS⟩ := hS
        refine m_callV (n := 3) (av := [.int ((σ.1 31) - 1), .int (σ.2.2.1 26 ((σ.1 31) - 1).toNatClampNeg), .int (σ.2.2.1 27 ((σ.1 31) - 1).toNatClampNeg)]) (rest := []) C hE (mc_Mo_checkIf l D cs B dE mo ad n _ _ _ _ hs25) km_Mo_253 kv_Mo_checkIf kl_Mo_checkIf kd_Mo_checkIf ki_Mo ⟨rfl, by decide, by decide, by decide⟩ rfl ⟨rfl, rfl⟩ (by decide) (by decide) d_Mo_checkStep_175 (Nat.le_of_ble_eq_true rfl) _ rfl (fun v1 σ1 hv => ?_)
        obtain ⟨rfl, rfl⟩ := hv
        rw [mbind_eq] at hF hS
        generalize F_Mo_checkIf n (mo_ai σ 27 ((σ.1 31) - 1).toNatClampNeg ((σ.2.2.1 27 ((σ.1 31) - 1).toNatClampNeg) + 1)) ((σ.1 31) - 1) (σ.2.2.1 26 ((σ.1 31) - 1).toNatClampNeg) (σ.2.2.1 27 ((σ.1 31) - 1).toNatClampNeg) = w24 at hF hS ⊢
        refine GW.eqs (st' := []) rfl ?_
        refine g_goto C 281 d_Mo_checkStep_178 (by decide) ?_
        exact m_vret C hr hlocks d_Mo_checkStep_281 (by rw [← hF]; exact ⟨rfl, rfl⟩)
      · rw [if_neg hc23] at hF hS
        by_cases hc26 : ((mo_ai σ 27 ((σ.1 31) - 1).toNatClampNeg ((σ.2.2.1 27 ((σ.1 31) - 1).toNatClampNeg) + 1)).2.2.1 5 (σ.2.2.1 26 ((σ.1 31) - 1).toNatClampNeg).toNatClampNeg) = 7
        · rw [if_pos hc26] at hF hS
          refine g_tableIn C 181 d_Mo_checkStep_37 (by rw [hc26]; decide) (by rw [hc26]; decide) (by rw [hc26]; rfl) (by decide) ?_
          refine g_iload_n C d_Mo_checkStep_181 rfl ?_
          refine g_if_ne C 210 d_Mo_checkStep_182 (by decide) (fun hc27 => ?_) (fun hc27 => ?_)
          · rw [if_neg hc27] at hF hS
            refine g_aload_n C d_Mo_checkStep_210 rfl ?_
            refine g_aload_n C d_Mo_checkStep_211 rfl ?_
            refine g_aload_n C d_Mo_checkStep_212 rfl ?_
            refine m_geta C hE 7 (by decide) (by decide) (by decide) kf_Mo_16 d_Mo_checkStep_213 ?_
            refine g_iload_n C d_Mo_checkStep_216 rfl ?_
            obtain ⟨hi28, hS⟩ := hS
            refine m_ald C hE 7 (by decide) (by decide) hi28 d_Mo_checkStep_217 ?_
            refine g_aload_n C d_Mo_checkStep_218 rfl ?_
            refine m_geti C hE 32 (by decide) (by decide) kf_Mo_227 d_Mo_checkStep_219 ?_
            refine g_aload_n C d_Mo_checkStep_222 rfl ?_
            refine m_geti C hE 33 (by decide) (by decide) kf_Mo_230 d_Mo_checkStep_223 ?_
            obtain ⟨hs30, hS⟩ := hS
            refine m_callV (n := 3) (av := [.int ((mo_ai σ 27 ((σ.1 31) - 1).toNatClampNeg ((σ.2.2.1 27 ((σ.1 31) - 1).toNatClampNeg) + 1)).2.2.1 7 (σ.2.2.1 26 ((σ.1 31) - 1).toNatClampNeg).toNatClampNeg), .int ((mo_ai σ 27 ((σ.1 31) - 1).toNatClampNeg ((σ.2.2.1 27 ((σ.1 31) - 1).toNatClampNeg) + 1)).1 32), .int ((mo_ai σ 27 ((σ.1 31) - 1).toNatClampNeg ((σ.2.2.1 27 ((σ.1 31) - 1).toNatClampNeg) + 1)).1 33)]) (rest := [.ref mo]) C hE (mc_Mo_typeOf l D cs B dE mo ad n _ _ _ _ hs30) km_Mo_198 kv_Mo_typeOf kl_Mo_typeOf kd_Mo_typeOf ki_Mo ⟨rfl, by decide, by decide, by decide⟩ rfl ⟨rfl, rfl⟩ (by decide) (by decide) d_Mo_checkStep_226 (Nat.le_of_ble_eq_true rfl) _ rfl (fun v1 σ1 hv => ?_)
            obtain ⟨rfl, rfl⟩ := hv
            rw [mbind_eq] at hF hS
            generalize F_Mo_typeOf n (mo_ai σ 27 ((σ.1 31) - 1).toNatClampNeg ((σ.2.2.1 27 ((σ.1 31) - 1).toNatClampNeg) + 1)) ((mo_ai σ 27 ((σ.1 31) - 1).toNatClampNeg ((σ.2.2.1 27 ((σ.1 31) - 1).toNatClampNeg) + 1)).2.2.1 7 (σ.2.2.1 26 ((σ.1 31) - 1).toNatClampNeg).toNatClampNeg) ((mo_ai σ 27 ((σ.1 31) - 1).toNatClampNeg ((σ.2.2.1 27 ((σ.1 31) - 1).toNatClampNeg) + 1)).1 32) ((mo_ai σ 27 ((σ.1 31) - 1).toNatClampNeg ((σ.2.2.1 27 ((σ.1 31) - 1).toNatClampNeg) + 1)).1 33) = w29 at hF hS ⊢
            refine GW.eqs (st' := [.int w29.1, .ref mo]) rfl ?_
            refine g_iconst (v := 0) C d_Mo_checkStep_229 (by decide) ?_
            obtain ⟨hs32, hS⟩ := hS
            refine m_callV (n := 2) (av := [.int w29.1, .int 0]) (rest := []) C hE (mc_Mo_ends l D cs B dE mo ad _ _ _ hs32) km_Mo_240 kv_Mo_ends kl_Mo_ends kd_Mo_ends ki_Mo ⟨rfl, by decide, by decide, by decide⟩ rfl ⟨rfl, rfl⟩ (by decide) (by decide) d_Mo_checkStep_230 (Nat.le_of_ble_eq_true rfl) _ rfl (fun v1 σ1 hv => ?_)
            obtain ⟨rfl, rfl⟩ := hv
            rw [mbind_eq] at hF hS
            generalize F_Mo_ends w29.2 w29.1 0 = w31 at hF hS ⊢
            refine GW.eqs (st' := []) rfl ?_
            refine g_goto C 281 d_Mo_checkStep_233 (by decide) ?_
            exact m_vret C hr hlocks d_Mo_checkStep_281 (by rw [← hF]; exact ⟨rfl, rfl⟩)
          · rw [if_pos hc27] at hF hS
            refine g_aload_n C d_Mo_checkStep_185 rfl ?_
            refine g_aload_n C d_Mo_checkStep_186 rfl ?_
            refine m_geta C hE 9 (by decide) (by decide) (by decide) kf_Mo_22 d_Mo_checkStep_187 ?_
            refine g_iload_n C d_Mo_checkStep_190 rfl ?_
            obtain ⟨hi33, hS⟩ := hS
            refine m_ald C hE 9 (by decide) (by decide) hi33 d_Mo_checkStep_191 ?_
            refine g_aload_n C d_Mo_checkStep_192 rfl ?_
            refine m_geta C hE 6 (by decide) (by decide) (by decide) kf_Mo_13 d_Mo_checkStep_193 ?_
            refine g_iload_n C d_Mo_checkStep_196 rfl ?_
            obtain ⟨hi34, hS⟩ := hS
            refine m_ald C hE 6 (by decide) (by decide) hi34 d_Mo_checkStep_197 ?_
            refine g_aload_n C d_Mo_checkStep_198 rfl ?_
            refine m_geta C hE 7 (by decide) (by decide) (by decide) kf_Mo_16 d_Mo_checkStep_199 ?_
            refine g_iload_n C d_Mo_checkStep_202 rfl ?_
            obtain ⟨hi35, hS⟩ := hS
            refine m_ald C hE 7 (by decide) (by decide) hi35 d_Mo_checkStep_203 ?_
            obtain ⟨hs37, hS⟩ := hS
            refine m_callV (n := 3) (av := [.int ((mo_ai σ 27 ((σ.1 31) - 1).toNatClampNeg ((σ.2.2.1 27 ((σ.1 31) - 1).toNatClampNeg) + 1)).2.2.1 9 (σ.2.2.1 26 ((σ.1 31) - 1).toNatClampNeg).toNatClampNeg), .int ((mo_ai σ 27 ((σ.1 31) - 1).toNatClampNeg ((σ.2.2.1 27 ((σ.1 31) - 1).toNatClampNeg) + 1)).2.2.1 6 (σ.2.2.1 26 ((σ.1 31) - 1).toNatClampNeg).toNatClampNeg), .int ((mo_ai σ 27 ((σ.1 31) - 1).toNatClampNeg ((σ.2.2.1 27 ((σ.1 31) - 1).toNatClampNeg) + 1)).2.2.1 7 (σ.2.2.1 26 ((σ.1 31) - 1).toNatClampNeg).toNatClampNeg)]) (rest := []) C hE (mc_Mo_intoWith l D cs B dE mo ad n _ _ _ _ hs37) km_Mo_233 kv_Mo_intoWith kl_Mo_intoWith kd_Mo_intoWith ki_Mo ⟨rfl, by decide, by decide, by decide⟩ rfl ⟨rfl, rfl⟩ (by decide) (by decide) d_Mo_checkStep_204 (Nat.le_of_ble_eq_true rfl) _ rfl (fun v1 σ1 hv => ?_)
            obtain ⟨rfl, rfl⟩ := hv
            rw [mbind_eq] at hF hS
            generalize F_Mo_intoWith n (mo_ai σ 27 ((σ.1 31) - 1).toNatClampNeg ((σ.2.2.1 27 ((σ.1 31) - 1).toNatClampNeg) + 1)) ((mo_ai σ 27 ((σ.1 31) - 1).toNatClampNeg ((σ.2.2.1 27 ((σ.1 31) - 1).toNatClampNeg) + 1)).2.2.1 9 (σ.2.2.1 26 ((σ.1 31) - 1).toNatClampNeg).toNatClampNeg) ((mo_ai σ 27 ((σ.1 31) - 1).toNatClampNeg ((σ.2.2.1 27 ((σ.1 31) - 1).toNatClampNeg) + 1)).2.2.1 6 (σ.2.2.1 26 ((σ.1 31) - 1).toNatClampNeg).toNatClampNeg) ((mo_ai σ 27 ((σ.1 31) - 1).toNatClampNeg ((σ.2.2.1 27 ((σ.1 31) - 1).toNatClampNeg) + 1)).2.2.1 7 (σ.2.2.1 26 ((σ.1 31) - 1).toNatClampNeg).toNatClampNeg) = w36 at hF hS ⊢
            refine GW.eqs (st' := []) rfl ?_
            refine g_goto C 281 d_Mo_checkStep_207 (by decide) ?_
            exact m_vret C hr hlocks d_Mo_checkStep_281 (by rw [← hF]; exact ⟨rfl, rfl⟩)
        · rw [if_neg hc26] at hF hS
          by_cases hc38 : ((mo_ai σ 27 ((σ.1 31) - 1).toNatClampNeg ((σ.2.2.1 27 ((σ.1 31) - 1).toNatClampNeg) + 1)).2.2.1 5 (σ.2.2.1 26 ((σ.1 31) - 1).toNatClampNeg).toNatClampNeg) = 8
          · rw [if_pos hc38] at hF hS
            refine g_tableIn C 236 d_Mo_checkStep_37 (by rw [hc38]; decide) (by rw [hc38]; decide) (by rw [hc38]; rfl) (by decide) ?_
            refine g_aload_n C d_Mo_checkStep_236 rfl ?_
            refine g_iload_n C d_Mo_checkStep_237 rfl ?_
            refine g_iload_n C d_Mo_checkStep_238 rfl ?_
            refine g_iload_n C d_Mo_checkStep_239 rfl ?_
            obtain ⟨hs40, hS⟩ := hS
            refine m_callV (n := 3) (av := [.int ((σ.1 31) - 1), .int (σ.2.2.1 26 ((σ.1 31) - 1).toNatClampNeg), .int (σ.2.2.1 27 ((σ.1 31) - 1).toNatClampNeg)]) (rest := []) C hE (mc_Mo_checkHandle l D cs B dE mo ad n _ _ _ _ hs40) km_Mo_256 kv_Mo_checkHandle kl_Mo_checkHandle kd_Mo_checkHandle ki_Mo ⟨rfl, by decide, by decide, by decide⟩ rfl ⟨rfl, rfl⟩ (by decide) (by decide) d_Mo_checkStep_240 (Nat.le_of_ble_eq_true rfl) _ rfl (fun v1 σ1 hv => ?_)
            obtain ⟨rfl, rfl⟩ := hv
            rw [mbind_eq] at hF hS
            generalize F_Mo_checkHandle n (mo_ai σ 27 ((σ.1 31) - 1).toNatClampNeg ((σ.2.2.1 27 ((σ.1 31) - 1).toNatClampNeg) + 1)) ((σ.1 31) - 1) (σ.2.2.1 26 ((σ.1 31) - 1).toNatClampNeg) (σ.2.2.1 27 ((σ.1 31) - 1).toNatClampNeg) = w39 at hF hS ⊢
            refine GW.eqs (st' := []) rfl ?_
            refine g_goto C 281 d_Mo_checkStep_243 (by decide) ?_
            exact m_vret C hr hlocks d_Mo_checkStep_281 (by rw [← hF]; exact ⟨rfl, rfl⟩)
          · rw [if_neg hc38] at hF hS
            by_cases hc41 : ((mo_ai σ 27 ((σ.1 31) - 1).toNatClampNeg ((σ.2.2.1 27 ((σ.1 31) - 1).toNatClampNeg) + 1)).2.2.1 5 (σ.2.2.1 26 ((σ.1 31) - 1).toNatClampNeg).toNatClampNeg) = 9
            · rw [if_pos hc41] at hF hS
              refine g_tableIn C 246 d_Mo_checkStep_37 (by rw [hc41]; decide) (by rw [hc41]; decide) (by rw [hc41]; rfl) (by decide) ?_
              refine g_aload_n C d_Mo_checkStep_246 rfl ?_
              refine g_iload_n C d_Mo_checkStep_247 rfl ?_
              refine g_iload_n C d_Mo_checkStep_248 rfl ?_
              refine g_iload_n C d_Mo_checkStep_249 rfl ?_
              obtain ⟨hs43, hS⟩ := hS
              refine m_callV (n := 3) (av := [.int ((σ.1 31) - 1), .int (σ.2.2.1 26 ((σ.1 31) - 1).toNatClampNeg), .int (σ.2.2.1 27 ((σ.1 31) - 1).toNatClampNeg)]) (rest := []) C hE (mc_Mo_checkTwo l D cs B dE mo ad n _ _ _ _ hs43) km_Mo_259 kv_Mo_checkTwo kl_Mo_checkTwo kd_Mo_checkTwo ki_Mo ⟨rfl, by decide, by decide, by decide⟩ rfl ⟨rfl, rfl⟩ (by decide) (by decide) d_Mo_checkStep_250 (Nat.le_of_ble_eq_true rfl) _ rfl (fun v1 σ1 hv => ?_)
              obtain ⟨rfl, rfl⟩ := hv
              rw [mbind_eq] at hF hS
              generalize F_Mo_checkTwo n (mo_ai σ 27 ((σ.1 31) - 1).toNatClampNeg ((σ.2.2.1 27 ((σ.1 31) - 1).toNatClampNeg) + 1)) ((σ.1 31) - 1) (σ.2.2.1 26 ((σ.1 31) - 1).toNatClampNeg) (σ.2.2.1 27 ((σ.1 31) - 1).toNatClampNeg) = w42 at hF hS ⊢
              refine GW.eqs (st' := []) rfl ?_
              refine g_goto C 281 d_Mo_checkStep_253 (by decide) ?_
              exact m_vret C hr hlocks d_Mo_checkStep_281 (by rw [← hF]; exact ⟨rfl, rfl⟩)
            · rw [if_neg hc41] at hF hS
              by_cases hc44 : ((mo_ai σ 27 ((σ.1 31) - 1).toNatClampNeg ((σ.2.2.1 27 ((σ.1 31) - 1).toNatClampNeg) + 1)).2.2.1 5 (σ.2.2.1 26 ((σ.1 31) - 1).toNatClampNeg).toNatClampNeg) = 10
              · rw [if_pos hc44] at hF hS
                refine g_tableIn C 256 d_Mo_checkStep_37 (by rw [hc44]; decide) (by rw [hc44]; decide) (by rw [hc44]; rfl) (by decide) ?_
                refine g_aload_n C d_Mo_checkStep_256 rfl ?_
                refine g_iload_n C d_Mo_checkStep_257 rfl ?_
                refine g_iload_n C d_Mo_checkStep_258 rfl ?_
                refine g_iload_n C d_Mo_checkStep_259 rfl ?_
                obtain ⟨hs46, hS⟩ := hS
                refine m_callV (n := 3) (av := [.int ((σ.1 31) - 1), .int (σ.2.2.1 26 ((σ.1 31) - 1).toNatClampNeg), .int (σ.2.2.1 27 ((σ.1 31) - 1).toNatClampNeg)]) (rest := []) C hE (mc_Mo_checkCall l D cs B dE mo ad n _ _ _ _ hs46) km_Mo_262 kv_Mo_checkCall kl_Mo_checkCall kd_Mo_checkCall ki_Mo ⟨rfl, by decide, by decide, by decide⟩ rfl ⟨rfl, rfl⟩ (by decide) (by decide) d_Mo_checkStep_260 (Nat.le_of_ble_eq_true rfl) _ rfl (fun v1 σ1 hv => ?_)
                obtain ⟨rfl, rfl⟩ := hv
                rw [mbind_eq] at hF hS
                generalize F_Mo_checkCall n (mo_ai σ 27 ((σ.1 31) - 1).toNatClampNeg ((σ.2.2.1 27 ((σ.1 31) - 1).toNatClampNeg) + 1)) ((σ.1 31) - 1) (σ.2.2.1 26 ((σ.1 31) - 1).toNatClampNeg) (σ.2.2.1 27 ((σ.1 31) - 1).toNatClampNeg) = w45 at hF hS ⊢
                refine GW.eqs (st' := []) rfl ?_
                refine g_goto C 281 d_Mo_checkStep_263 (by decide) ?_
                exact m_vret C hr hlocks d_Mo_checkStep_281 (by rw [← hF]; exact ⟨rfl, rfl⟩)
              · rw [if_neg hc44] at hF hS
                by_cases hc47 : ((mo_ai σ 27 ((σ.1 31) - 1).toNatClampNeg ((σ.2.2.1 27 ((σ.1 31) - 1).toNatClampNeg) + 1)).2.2.1 5 (σ.2.2.1 26 ((σ.1 31) - 1).toNatClampNeg).toNatClampNeg) = 11
                · rw [if_pos hc47] at hF hS
                  refine g_tableIn C 266 d_Mo_checkStep_37 (by rw [hc47]; decide) (by rw [hc47]; decide) (by rw [hc47]; rfl) (by decide) ?_
                  refine g_aload_n C d_Mo_checkStep_266 rfl ?_
                  refine g_iload_n C d_Mo_checkStep_267 rfl ?_
                  refine g_iload_n C d_Mo_checkStep_268 rfl ?_
                  obtain ⟨hs49, hS⟩ := hS
                  refine m_callV (n := 2) (av := [.int (σ.2.2.1 26 ((σ.1 31) - 1).toNatClampNeg), .int (σ.2.2.1 27 ((σ.1 31) - 1).toNatClampNeg)]) (rest := []) C hE (mc_Mo_checkPerform l D cs B dE mo ad n _ _ _ hs49) km_Mo_265 kv_Mo_checkPerform kl_Mo_checkPerform kd_Mo_checkPerform ki_Mo ⟨rfl, by decide, by decide, by decide⟩ rfl ⟨rfl, rfl⟩ (by decide) (by decide) d_Mo_checkStep_269 (Nat.le_of_ble_eq_true rfl) _ rfl (fun v1 σ1 hv => ?_)
                  obtain ⟨rfl, rfl⟩ := hv
                  rw [mbind_eq] at hF hS
                  generalize F_Mo_checkPerform n (mo_ai σ 27 ((σ.1 31) - 1).toNatClampNeg ((σ.2.2.1 27 ((σ.1 31) - 1).toNatClampNeg) + 1)) (σ.2.2.1 26 ((σ.1 31) - 1).toNatClampNeg) (σ.2.2.1 27 ((σ.1 31) - 1).toNatClampNeg) = w48 at hF hS ⊢
                  refine GW.eqs (st' := []) rfl ?_
                  refine g_goto C 281 d_Mo_checkStep_272 (by decide) ?_
                  exact m_vret C hr hlocks d_Mo_checkStep_281 (by rw [← hF]; exact ⟨rfl, rfl⟩)
                · rw [if_neg hc47] at hF hS
                  refine g_tableOut C 275 d_Mo_checkStep_37 (by have := lv_neT hc6 (show (4 : Int32).toInt = 4 by decide); have := lv_neT hc20 (show (5 : Int32).toInt = 5 by decide); have := lv_neT hc23 (show (6 : Int32).toInt = 6 by decide); have := lv_neT hc26 (show (7 : Int32).toInt = 7 by decide); have := lv_neT hc38 (show (8 : Int32).toInt = 8 by decide); have := lv_neT hc41 (show (9 : Int32).toInt = 9 by decide); have := lv_neT hc44 (show (10 : Int32).toInt = 10 by decide); have := lv_neT hc47 (show (11 : Int32).toInt = 11 by decide); omega) (by decide) ?_
                  refine g_aload_n C d_Mo_checkStep_275 rfl ?_
                  refine g_iload_n C d_Mo_checkStep_276 rfl ?_
                  refine g_iload_n C d_Mo_checkStep_277 rfl ?_
                  obtain ⟨hs51, hS⟩ := hS
                  refine m_callV (n := 2) (av := [.int ((σ.1 31) - 1), .int (σ.2.2.1 26 ((σ.1 31) - 1).toNatClampNeg)]) (rest := []) C hE (mc_Mo_checkAtom l D cs B dE mo ad _ _ _ hs51) km_Mo_268 kv_Mo_checkAtom kl_Mo_checkAtom kd_Mo_checkAtom ki_Mo ⟨rfl, by decide, by decide, by decide⟩ rfl ⟨rfl, rfl⟩ (by decide) (by decide) d_Mo_checkStep_278 (Nat.le_of_ble_eq_true rfl) _ rfl (fun v1 σ1 hv => ?_)
                  obtain ⟨rfl, rfl⟩ := hv
                  rw [mbind_eq] at hF hS
                  generalize F_Mo_checkAtom (mo_ai σ 27 ((σ.1 31) - 1).toNatClampNeg ((σ.2.2.1 27 ((σ.1 31) - 1).toNatClampNeg) + 1)) ((σ.1 31) - 1) (σ.2.2.1 26 ((σ.1 31) - 1).toNatClampNeg) = w50 at hF hS ⊢
                  refine GW.eqs (st' := []) rfl ?_
                  exact m_vret C hr hlocks d_Mo_checkStep_281 (by rw [← hF]; exact ⟨rfl, rfl⟩)
def F_Mo_begin (σ : mSt) : mSt := mo_sl (mo_si (mo_si (mo_si (mo_si (mo_si (mo_si (mo_si (mo_si (mo_si (mo_si (mo_si σ 44 0) 45 ((mo_si σ 44 0).1 36)) 51 0) 46 1) 47 0) 48 0) 49 0) 50 (-1)) 56 0) 61 0) 62 0) 0
def S_Mo_begin (σ : mSt) : Prop := True
set_option maxRecDepth 100000 in
set_option maxHeartbeats 4000000 in
theorem mc_Mo_begin (l : Launch) (D : va_G) (cs : Nat → ClassId) (B : Nat) (dE : Nat × Nat) (mo : Nat) (ad : Nat → Nat) (σ : mSt) (hS : S_Mo_begin σ) : mMet l y_Mo_begin (Cond.code y_Mo_begin c_Mo_begin 1 none) ({ frames := 0, cells := 0, slots := 0, locals := 0 } : Room) D cs B dE mo ad [.ref mo] σ (fun r σ' => r = none ∧ σ' = F_Mo_begin σ) := by
  refine mMet.ofW (by decide) rfl (Nat.le_of_ble_eq_true rfl) (lv0 := [(0, .ref mo)]) rfl ?_
  intro p e s m args below meth c M0 C hE hr hlocks
  generalize hF : F_Mo_begin σ = Fv
  unfold F_Mo_begin at hF
  unfold S_Mo_begin at hS
  refine g_aload_n C d_Mo_begin_0 rfl ?_
  refine g_iconst (v := 0) C d_Mo_begin_1 (by decide) ?_
  refine m_puti C hE 44 (by decide) (by decide) rfl rfl kf_Mo_283 d_Mo_begin_2 ?_
  refine g_aload_n C d_Mo_begin_5 rfl ?_
  refine g_aload_n C d_Mo_begin_6 rfl ?_
  refine m_geti C hE 36 (by decide) (by decide) kf_Mo_158 d_Mo_begin_7 ?_
  refine m_puti C hE 45 (by decide) (by decide) rfl rfl kf_Mo_286 d_Mo_begin_10 ?_
  refine g_aload_n C d_Mo_begin_13 rfl ?_
  refine g_iconst (v := 0) C d_Mo_begin_14 (by decide) ?_
  refine m_putz C hE 51 (by decide) (by decide) rfl rfl (by decide) kf_Mo_289 d_Mo_begin_15 ?_
  refine g_aload_n C d_Mo_begin_18 rfl ?_
  refine g_iconst (v := 1) C d_Mo_begin_19 (by decide) ?_
  refine m_puti C hE 46 (by decide) (by decide) rfl rfl kf_Mo_161 d_Mo_begin_20 ?_
  refine g_aload_n C d_Mo_begin_23 rfl ?_
  refine g_iconst (v := 0) C d_Mo_begin_24 (by decide) ?_
  refine m_puti C hE 47 (by decide) (by decide) rfl rfl kf_Mo_174 d_Mo_begin_25 ?_
  refine g_aload_n C d_Mo_begin_28 rfl ?_
  refine g_iconst (v := 0) C d_Mo_begin_29 (by decide) ?_
  refine m_puti C hE 48 (by decide) (by decide) rfl rfl kf_Mo_177 d_Mo_begin_30 ?_
  refine g_aload_n C d_Mo_begin_33 rfl ?_
  refine g_iconst (v := 0) C d_Mo_begin_34 (by decide) ?_
  refine m_puti C hE 49 (by decide) (by decide) rfl rfl kf_Mo_180 d_Mo_begin_35 ?_
  refine g_aload_n C d_Mo_begin_38 rfl ?_
  refine g_iconst (v := (-1)) C d_Mo_begin_39 (by decide) ?_
  refine m_puti C hE 50 (by decide) (by decide) rfl rfl kf_Mo_183 d_Mo_begin_40 ?_
  refine g_aload_n C d_Mo_begin_43 rfl ?_
  refine g_iconst (v := 0) C d_Mo_begin_44 (by decide) ?_
  refine m_puti C hE 56 (by decide) (by decide) rfl rfl kf_Mo_292 d_Mo_begin_45 ?_
  refine g_aload_n C d_Mo_begin_48 rfl ?_
  refine g_iconst (v := 0) C d_Mo_begin_49 (by decide) ?_
  refine m_puti C hE 61 (by decide) (by decide) rfl rfl kf_Mo_295 d_Mo_begin_50 ?_
  refine g_aload_n C d_Mo_begin_53 rfl ?_
  refine g_iconst (v := 0) C d_Mo_begin_54 (by decide) ?_
  refine m_puti C hE 62 (by decide) (by decide) rfl rfl kf_Mo_298 d_Mo_begin_55 ?_
  refine g_aload_n C d_Mo_begin_58 rfl ?_
  refine g_lconst (v := 0) C d_Mo_begin_59 (by decide) ?_
  refine m_putl C hE kf_Mo_186 d_Mo_begin_60 ?_
  exact m_vret C hr hlocks d_Mo_begin_63 (by rw [← hF]; exact ⟨rfl, rfl⟩)
def F_Mo_check_93 : Nat → mSt → Int32 → Int32 → mSt × Int32 × Int32
  | 0, σ, _, _ => (σ, 0, 0)
  | n + 1, σ, x1, x2 => if (σ.1 31) ≤ 0 then ((σ, x1, x2)) else (if (σ.1 34) = 0 then (mbind (F_Mo_checkStep n σ) (fun w17 => F_Mo_check_93 n w17 x1 x2)) else ((σ, x1, x2)))
def S_Mo_check_93 : Nat → mSt → Int32 → Int32 → Prop
  | 0, _, _, _ => False
  | n + 1, σ, x1, x2 => if (σ.1 31) ≤ 0 then (True) else (if (σ.1 34) = 0 then ((S_Mo_checkStep n σ) ∧ (mbind (F_Mo_checkStep n σ) (fun w17 => S_Mo_check_93 n w17 x1 x2))) else (True))
set_option maxRecDepth 100000 in
set_option maxHeartbeats 4000000 in
theorem w_Mo_check_93 {p : Program} {l : Launch} {e : Env} {s : State} {m : MethodId} {args : Array Value} {below : List Frame} {meth : Method} {c : Code} {D : va_G} {cs : Nat → ClassId} {B : Nat} {dE : Nat × Nat} {mo : Nat} {ad : Nat → Nat} {M0 : gMem} {Q : State → Prop} (C : CallFix p m c c_Mo_check 3 s args gT R_Mo) (hE : gEnv D gcl (gtys cs) gz B dE s) (n : Nat) (σ : mSt) (x1 : Int32) (x2 : Int32) (Fv : mSt × Int32 × Int32) (hS : S_Mo_check_93 n σ x1 x2) (hF : F_Mo_check_93 n σ x1 x2 = Fv) (hk : GW p l e ({ frames := 5, cells := 0, slots := 0, locals := 121 } : Room) s m args below meth c 3 (gA B) Q (mo_P D B cs mo ad M0 Fv.1) 0 0 114 [(0, .ref mo), (1, .int Fv.2.1), (2, .int Fv.2.2)] []) : GW p l e ({ frames := 5, cells := 0, slots := 0, locals := 121 } : Room) s m args below meth c 3 (gA B) Q (mo_P D B cs mo ad M0 σ) 0 0 93 [(0, .ref mo), (1, .int x1), (2, .int x2)] [] := by
  induction n generalizing σ x1 x2 Fv with
  | zero => exact hS.elim
  | succ n ih =>
    unfold F_Mo_check_93 at hF
    unfold S_Mo_check_93 at hS
    refine g_aload_n C d_Mo_check_93 rfl ?_
    refine m_geti C hE 31 (by decide) (by decide) kf_Mo_220 d_Mo_check_94 ?_
    refine g_if_le C 114 d_Mo_check_97 (by decide) (fun hc15 => ?_) (fun hc15 => ?_)
    · rw [if_pos hc15] at hF hS
      refine GW.subl [0, 1, 2] rfl ?_
      rw [← hF] at hk
      exact hk
    · rw [if_neg hc15] at hF hS
      refine g_aload_n C d_Mo_check_100 rfl ?_
      refine m_geti C hE 34 (by decide) (by decide) kf_Mo_164 d_Mo_check_101 ?_
      refine g_if_ne C 114 d_Mo_check_104 (by decide) (fun hc16 => ?_) (fun hc16 => ?_)
      · rw [if_neg hc16] at hF hS
        refine GW.subl [0, 1, 2] rfl ?_
        rw [← hF] at hk
        exact hk
      · rw [if_pos hc16] at hF hS
        refine g_aload_n C d_Mo_check_107 rfl ?_
        obtain ⟨hs18, hS⟩ := hS
        refine m_callV (n := 0) (av := []) (rest := []) C hE (mc_Mo_checkStep l D cs B dE mo ad n _ hs18) km_Mo_271 kv_Mo_checkStep kl_Mo_checkStep kd_Mo_checkStep ki_Mo ⟨rfl, by decide, by decide, by decide⟩ rfl ⟨rfl, rfl⟩ (by decide) (by decide) d_Mo_check_108 (Nat.le_of_ble_eq_true rfl) _ rfl (fun v1 σ1 hv => ?_)
        obtain ⟨rfl, rfl⟩ := hv
        rw [mbind_eq] at hF hS
        generalize F_Mo_checkStep n σ = w17 at hF hS ⊢
        refine GW.eqs (st' := []) rfl ?_
        refine g_goto C 93 d_Mo_check_111 (by decide) ?_
        refine GW.subl [0, 1, 2] rfl ?_
        exact ih w17 x1 x2 Fv hS hF hk
def F_Mo_check_j149 (n : Nat) (σ : mSt) (x1 : Int32) (x2 : Int32) (z0 : Int32) : Int32 × mSt := mbind (F_Mo_begin (mo_si σ 4 z0)) (fun w20 => if ((mo_si w20 46 0).1 34) = 0 then (((mo_si (mo_si (mo_si (mo_si w20 46 0) 36 x1) 37 ((mo_si (mo_si w20 46 0) 36 x1).1 32)) 38 ((mo_si (mo_si (mo_si w20 46 0) 36 x1) 37 ((mo_si (mo_si w20 46 0) 36 x1).1 32)).1 33)).1 32, mo_si (mo_si (mo_si (mo_si w20 46 0) 36 x1) 37 ((mo_si (mo_si w20 46 0) 36 x1).1 32)) 38 ((mo_si (mo_si (mo_si w20 46 0) 36 x1) 37 ((mo_si (mo_si w20 46 0) 36 x1).1 32)).1 33))) else ((0, mo_si (mo_si w20 46 0) 3 x2)))
def S_Mo_check_j149 (n : Nat) (σ : mSt) (x1 : Int32) (x2 : Int32) (z0 : Int32) : Prop := (S_Mo_begin (mo_si σ 4 z0)) ∧ (mbind (F_Mo_begin (mo_si σ 4 z0)) (fun w20 => if ((mo_si w20 46 0).1 34) = 0 then (True) else (True)))
set_option maxRecDepth 100000 in
set_option maxHeartbeats 4000000 in
theorem w_Mo_check_j149 {p : Program} {l : Launch} {e : Env} {s : State} {m : MethodId} {args : Array Value} {below : List Frame} {meth : Method} {c : Code} {D : va_G} {cs : Nat → ClassId} {B : Nat} {dE : Nat × Nat} {mo : Nat} {ad : Nat → Nat} {M0 : gMem} (C : CallFix p m c c_Mo_check 3 s args gT R_Mo) (hE : gEnv D gcl (gtys cs) gz B dE s) (hr : meth.sig.returnType = (some .int)) (hlocks : meth.locks = false) (n : Nat) (σ : mSt) (x1 : Int32) (x2 : Int32) (z0 : Int32) (Fv : Int32 × mSt) (hS : S_Mo_check_j149 n σ x1 x2 z0) (hF : F_Mo_check_j149 n σ x1 x2 z0 = Fv) : GW p l e ({ frames := 5, cells := 0, slots := 0, locals := 121 } : Room) s m args below meth c 3 (gA B) (mQ below D cs B mo ad M0 (fun r σ' => r = some (.int Fv.1) ∧ σ' = Fv.2) args s) (mo_P D B cs mo ad M0 σ) 0 0 149 [(0, .ref mo), (1, .int x1), (2, .int x2)] [.int z0, .ref mo] := by
  unfold F_Mo_check_j149 at hF
  unfold S_Mo_check_j149 at hS
  refine m_puti C hE 4 (by decide) (by decide) rfl rfl kf_Mo_142 d_Mo_check_149 ?_
  refine g_aload_n C d_Mo_check_152 rfl ?_
  obtain ⟨hs21, hS⟩ := hS
  refine m_callV (n := 0) (av := []) (rest := []) C hE (mc_Mo_begin l D cs B dE mo ad _ hs21) km_Mo_274 kv_Mo_begin kl_Mo_begin kd_Mo_begin ki_Mo ⟨rfl, by decide, by decide, by decide⟩ rfl ⟨rfl, rfl⟩ (by decide) (by decide) d_Mo_check_153 (Nat.le_of_ble_eq_true rfl) _ rfl (fun v1 σ1 hv => ?_)
  obtain ⟨rfl, rfl⟩ := hv
  rw [mbind_eq] at hF hS
  generalize F_Mo_begin (mo_si σ 4 z0) = w20 at hF hS ⊢
  refine GW.eqs (st' := []) rfl ?_
  refine g_aload_n C d_Mo_check_156 rfl ?_
  refine g_iconst (v := 0) C d_Mo_check_157 (by decide) ?_
  refine m_puti C hE 46 (by decide) (by decide) rfl rfl kf_Mo_161 d_Mo_check_158 ?_
  refine g_aload_n C d_Mo_check_161 rfl ?_
  refine m_geti C hE 34 (by decide) (by decide) kf_Mo_164 d_Mo_check_162 ?_
  refine g_if_eq C 175 d_Mo_check_165 (by decide) (fun hc22 => ?_) (fun hc22 => ?_)
  · rw [if_pos hc22] at hF hS
    refine g_aload_n C d_Mo_check_175 rfl ?_
    refine g_iload_n C d_Mo_check_176 rfl ?_
    refine m_puti C hE 36 (by decide) (by decide) rfl rfl kf_Mo_158 d_Mo_check_177 ?_
    refine g_aload_n C d_Mo_check_180 rfl ?_
    refine g_aload_n C d_Mo_check_181 rfl ?_
    refine m_geti C hE 32 (by decide) (by decide) kf_Mo_227 d_Mo_check_182 ?_
    refine m_puti C hE 37 (by decide) (by decide) rfl rfl kf_Mo_277 d_Mo_check_185 ?_
    refine g_aload_n C d_Mo_check_188 rfl ?_
    refine g_aload_n C d_Mo_check_189 rfl ?_
    refine m_geti C hE 33 (by decide) (by decide) kf_Mo_230 d_Mo_check_190 ?_
    refine m_puti C hE 38 (by decide) (by decide) rfl rfl kf_Mo_280 d_Mo_check_193 ?_
    refine g_aload_n C d_Mo_check_196 rfl ?_
    refine m_geti C hE 32 (by decide) (by decide) kf_Mo_227 d_Mo_check_197 ?_
    exact m_iret C hr hlocks d_Mo_check_200 (by rw [← hF]; exact ⟨rfl, rfl⟩)
  · rw [if_neg hc22] at hF hS
    refine g_aload_n C d_Mo_check_168 rfl ?_
    refine g_iload_n C d_Mo_check_169 rfl ?_
    refine m_puti C hE 3 (by decide) (by decide) rfl rfl kf_Mo_155 d_Mo_check_170 ?_
    refine g_iconst (v := 0) C d_Mo_check_173 (by decide) ?_
    exact m_iret C hr hlocks d_Mo_check_174 (by rw [← hF]; exact ⟨rfl, rfl⟩)
def F_Mo_check_j136 (n : Nat) (σ : mSt) (x1 : Int32) (x2 : Int32) : Int32 × mSt := if (σ.1 34) = 0 then (F_Mo_check_j149 n σ x1 x2 0) else (F_Mo_check_j149 n σ x1 x2 3)
def S_Mo_check_j136 (n : Nat) (σ : mSt) (x1 : Int32) (x2 : Int32) : Prop := if (σ.1 34) = 0 then (S_Mo_check_j149 n σ x1 x2 0) else (S_Mo_check_j149 n σ x1 x2 3)
set_option maxRecDepth 100000 in
set_option maxHeartbeats 4000000 in
theorem w_Mo_check_j136 {p : Program} {l : Launch} {e : Env} {s : State} {m : MethodId} {args : Array Value} {below : List Frame} {meth : Method} {c : Code} {D : va_G} {cs : Nat → ClassId} {B : Nat} {dE : Nat × Nat} {mo : Nat} {ad : Nat → Nat} {M0 : gMem} (C : CallFix p m c c_Mo_check 3 s args gT R_Mo) (hE : gEnv D gcl (gtys cs) gz B dE s) (hr : meth.sig.returnType = (some .int)) (hlocks : meth.locks = false) (n : Nat) (σ : mSt) (x1 : Int32) (x2 : Int32) (Fv : Int32 × mSt) (hS : S_Mo_check_j136 n σ x1 x2) (hF : F_Mo_check_j136 n σ x1 x2 = Fv) : GW p l e ({ frames := 5, cells := 0, slots := 0, locals := 121 } : Room) s m args below meth c 3 (gA B) (mQ below D cs B mo ad M0 (fun r σ' => r = some (.int Fv.1) ∧ σ' = Fv.2) args s) (mo_P D B cs mo ad M0 σ) 0 0 136 [(0, .ref mo), (1, .int x1), (2, .int x2)] [] := by
  unfold F_Mo_check_j136 at hF
  unfold S_Mo_check_j136 at hS
  refine g_aload_n C d_Mo_check_136 rfl ?_
  refine g_aload_n C d_Mo_check_137 rfl ?_
  refine m_geti C hE 34 (by decide) (by decide) kf_Mo_164 d_Mo_check_138 ?_
  refine g_if_eq C 148 d_Mo_check_141 (by decide) (fun hc19 => ?_) (fun hc19 => ?_)
  · rw [if_pos hc19] at hF hS
    refine g_iconst (v := 0) C d_Mo_check_148 (by decide) ?_
    refine GW.subl [0, 1, 2] rfl ?_
    exact w_Mo_check_j149 C hE hr hlocks n σ x1 x2 0 Fv hS hF
  · rw [if_neg hc19] at hF hS
    refine g_iconst (v := 3) C d_Mo_check_144 (by decide) ?_
    refine g_goto C 149 d_Mo_check_145 (by decide) ?_
    refine GW.subl [0, 1, 2] rfl ?_
    exact w_Mo_check_j149 C hE hr hlocks n σ x1 x2 3 Fv hS hF
def F_Mo_check_j114 (n : Nat) (σ : mSt) (x1 : Int32) (x2 : Int32) : Int32 × mSt := if (σ.1 34) = 0 then (if (σ.1 3) ≤ 63 then (F_Mo_check_j136 n σ x1 x2) else (F_Mo_check_j136 n (mo_si σ 34 9) x1 x2)) else (F_Mo_check_j136 n σ x1 x2)
def S_Mo_check_j114 (n : Nat) (σ : mSt) (x1 : Int32) (x2 : Int32) : Prop := if (σ.1 34) = 0 then (if (σ.1 3) ≤ 63 then (S_Mo_check_j136 n σ x1 x2) else (S_Mo_check_j136 n (mo_si σ 34 9) x1 x2)) else (S_Mo_check_j136 n σ x1 x2)
set_option maxRecDepth 100000 in
set_option maxHeartbeats 4000000 in
theorem w_Mo_check_j114 {p : Program} {l : Launch} {e : Env} {s : State} {m : MethodId} {args : Array Value} {below : List Frame} {meth : Method} {c : Code} {D : va_G} {cs : Nat → ClassId} {B : Nat} {dE : Nat × Nat} {mo : Nat} {ad : Nat → Nat} {M0 : gMem} (C : CallFix p m c c_Mo_check 3 s args gT R_Mo) (hE : gEnv D gcl (gtys cs) gz B dE s) (hr : meth.sig.returnType = (some .int)) (hlocks : meth.locks = false) (n : Nat) (σ : mSt) (x1 : Int32) (x2 : Int32) (Fv : Int32 × mSt) (hS : S_Mo_check_j114 n σ x1 x2) (hF : F_Mo_check_j114 n σ x1 x2 = Fv) : GW p l e ({ frames := 5, cells := 0, slots := 0, locals := 121 } : Room) s m args below meth c 3 (gA B) (mQ below D cs B mo ad M0 (fun r σ' => r = some (.int Fv.1) ∧ σ' = Fv.2) args s) (mo_P D B cs mo ad M0 σ) 0 0 114 [(0, .ref mo), (1, .int x1), (2, .int x2)] [] := by
  unfold F_Mo_check_j114 at hF
  unfold S_Mo_check_j114 at hS
  refine g_aload_n C d_Mo_check_114 rfl ?_
  refine m_geti C hE 34 (by decide) (by decide) kf_Mo_164 d_Mo_check_115 ?_
  refine g_if_ne C 136 d_Mo_check_118 (by decide) (fun hc13 => ?_) (fun hc13 => ?_)
  · rw [if_neg hc13] at hF hS
    refine GW.subl [0, 1, 2] rfl ?_
    exact w_Mo_check_j136 C hE hr hlocks n σ x1 x2 Fv hS hF
  · rw [if_pos hc13] at hF hS
    refine g_aload_n C d_Mo_check_121 rfl ?_
    refine m_geti C hE 3 (by decide) (by decide) kf_Mo_155 d_Mo_check_122 ?_
    refine g_bipush (v := 63) C d_Mo_check_125 (by decide) ?_
    refine g_icmp_le C 136 d_Mo_check_127 (by decide) (fun hc14 => ?_) (fun hc14 => ?_)
    · rw [if_pos hc14] at hF hS
      refine GW.subl [0, 1, 2] rfl ?_
      exact w_Mo_check_j136 C hE hr hlocks n σ x1 x2 Fv hS hF
    · rw [if_neg hc14] at hF hS
      refine g_aload_n C d_Mo_check_130 rfl ?_
      refine g_bipush (v := 9) C d_Mo_check_131 (by decide) ?_
      refine m_puti C hE 34 (by decide) (by decide) rfl rfl kf_Mo_164 d_Mo_check_133 ?_
      refine GW.subl [0, 1, 2] rfl ?_
      exact w_Mo_check_j136 C hE hr hlocks n (mo_si σ 34 9) x1 x2 Fv hS hF
def F_Mo_check_j41 (n : Nat) (σ : mSt) (x1 : Int32) (z0 : Int32) : Int32 × mSt := if ((mo_si σ 4 z0).1 4) = 0 then (mbind (F_Mo_into n (mo_si (mo_si (mo_si (mo_si (mo_si (mo_si (mo_si σ 4 z0) 34 0) 35 (-1)) 39 1) 36 (-1)) 46 0) 31 0) x1) (fun w9 => mbind (F_Mo_check_93 n w9 x1 ((mo_si σ 4 z0).1 3)) (fun w11 => F_Mo_check_j114 n w11.1 w11.2.1 w11.2.2))) else ((0, mo_si σ 4 z0))
def S_Mo_check_j41 (n : Nat) (σ : mSt) (x1 : Int32) (z0 : Int32) : Prop := if ((mo_si σ 4 z0).1 4) = 0 then ((S_Mo_into n (mo_si (mo_si (mo_si (mo_si (mo_si (mo_si (mo_si σ 4 z0) 34 0) 35 (-1)) 39 1) 36 (-1)) 46 0) 31 0) x1) ∧ (mbind (F_Mo_into n (mo_si (mo_si (mo_si (mo_si (mo_si (mo_si (mo_si σ 4 z0) 34 0) 35 (-1)) 39 1) 36 (-1)) 46 0) 31 0) x1) (fun w9 => (S_Mo_check_93 n w9 x1 ((mo_si σ 4 z0).1 3)) ∧ (mbind (F_Mo_check_93 n w9 x1 ((mo_si σ 4 z0).1 3)) (fun w11 => S_Mo_check_j114 n w11.1 w11.2.1 w11.2.2))))) else (True)
set_option maxRecDepth 100000 in
set_option maxHeartbeats 4000000 in
theorem w_Mo_check_j41 {p : Program} {l : Launch} {e : Env} {s : State} {m : MethodId} {args : Array Value} {below : List Frame} {meth : Method} {c : Code} {D : va_G} {cs : Nat → ClassId} {B : Nat} {dE : Nat × Nat} {mo : Nat} {ad : Nat → Nat} {M0 : gMem} (C : CallFix p m c c_Mo_check 3 s args gT R_Mo) (hE : gEnv D gcl (gtys cs) gz B dE s) (hr : meth.sig.returnType = (some .int)) (hlocks : meth.locks = false) (n : Nat) (σ : mSt) (x1 : Int32) (z0 : Int32) (Fv : Int32 × mSt) (hS : S_Mo_check_j41 n σ x1 z0) (hF : F_Mo_check_j41 n σ x1 z0 = Fv) : GW p l e ({ frames := 5, cells := 0, slots := 0, locals := 121 } : Room) s m args below meth c 3 (gA B) (mQ below D cs B mo ad M0 (fun r σ' => r = some (.int Fv.1) ∧ σ' = Fv.2) args s) (mo_P D B cs mo ad M0 σ) 0 0 41 [(0, .ref mo), (1, .int x1)] [.int z0, .ref mo] := by
  unfold F_Mo_check_j41 at hF
  unfold S_Mo_check_j41 at hS
  refine m_puti C hE 4 (by decide) (by decide) rfl rfl kf_Mo_142 d_Mo_check_41 ?_
  refine g_aload_n C d_Mo_check_44 rfl ?_
  refine m_geti C hE 4 (by decide) (by decide) kf_Mo_142 d_Mo_check_45 ?_
  refine g_if_eq C 53 d_Mo_check_48 (by decide) (fun hc8 => ?_) (fun hc8 => ?_)
  · rw [if_pos hc8] at hF hS
    refine g_aload_n C d_Mo_check_53 rfl ?_
    refine m_geti C hE 3 (by decide) (by decide) kf_Mo_155 d_Mo_check_54 ?_
    refine g_istore_n (lv' := [(2, .int ((mo_si σ 4 z0).1 3)), (0, .ref mo), (1, .int x1)]) C d_Mo_check_57 (by decide) rfl ?_
    refine g_aload_n C d_Mo_check_58 rfl ?_
    refine g_iconst (v := 0) C d_Mo_check_59 (by decide) ?_
    refine m_puti C hE 34 (by decide) (by decide) rfl rfl kf_Mo_164 d_Mo_check_60 ?_
    refine g_aload_n C d_Mo_check_63 rfl ?_
    refine g_iconst (v := (-1)) C d_Mo_check_64 (by decide) ?_
    refine m_puti C hE 35 (by decide) (by decide) rfl rfl kf_Mo_167 d_Mo_check_65 ?_
    refine g_aload_n C d_Mo_check_68 rfl ?_
    refine g_iconst (v := 1) C d_Mo_check_69 (by decide) ?_
    refine m_putz C hE 39 (by decide) (by decide) rfl rfl (by decide) kf_Mo_170 d_Mo_check_70 ?_
    refine g_aload_n C d_Mo_check_73 rfl ?_
    refine g_iconst (v := (-1)) C d_Mo_check_74 (by decide) ?_
    refine m_puti C hE 36 (by decide) (by decide) rfl rfl kf_Mo_158 d_Mo_check_75 ?_
    refine g_aload_n C d_Mo_check_78 rfl ?_
    refine g_iconst (v := 0) C d_Mo_check_79 (by decide) ?_
    refine m_puti C hE 46 (by decide) (by decide) rfl rfl kf_Mo_161 d_Mo_check_80 ?_
    refine g_aload_n C d_Mo_check_83 rfl ?_
    refine g_iconst (v := 0) C d_Mo_check_84 (by decide) ?_
    refine m_puti C hE 31 (by decide) (by decide) rfl rfl kf_Mo_220 d_Mo_check_85 ?_
    refine g_aload_n C d_Mo_check_88 rfl ?_
    refine g_iload_n C d_Mo_check_89 rfl ?_
    obtain ⟨hs10, hS⟩ := hS
    refine m_callV (n := 1) (av := [.int x1]) (rest := []) C hE (mc_Mo_into l D cs B dE mo ad n _ _ hs10) km_Mo_223 kv_Mo_into kl_Mo_into kd_Mo_into ki_Mo ⟨rfl, by decide, by decide, by decide⟩ rfl ⟨rfl, rfl⟩ (by decide) (by decide) d_Mo_check_90 (Nat.le_of_ble_eq_true rfl) _ rfl (fun v1 σ1 hv => ?_)
    obtain ⟨rfl, rfl⟩ := hv
    rw [mbind_eq] at hF hS
    generalize F_Mo_into n (mo_si (mo_si (mo_si (mo_si (mo_si (mo_si (mo_si σ 4 z0) 34 0) 35 (-1)) 39 1) 36 (-1)) 46 0) 31 0) x1 = w9 at hF hS ⊢
    refine GW.eqs (st' := []) rfl ?_
    obtain ⟨hs12, hS⟩ := hS
    rw [mbind_eq] at hF hS
    refine GW.subl [1, 2, 0] rfl ?_
    refine w_Mo_check_93 C hE n w9 x1 ((mo_si σ 4 z0).1 3) _ hs12 rfl ?_
    generalize F_Mo_check_93 n w9 x1 ((mo_si σ 4 z0).1 3) = w11 at hF hS ⊢
    refine GW.subl [0, 1, 2] rfl ?_
    exact w_Mo_check_j114 C hE hr hlocks n w11.1 w11.2.1 w11.2.2 Fv hS hF
  · rw [if_neg hc8] at hF hS
    refine g_iconst (v := 0) C d_Mo_check_51 (by decide) ?_
    exact m_iret C hr hlocks d_Mo_check_52 (by rw [← hF]; exact ⟨rfl, rfl⟩)
def F_Mo_check_j36 (n : Nat) (σ : mSt) (x1 : Int32) : Int32 × mSt := F_Mo_check_j41 n σ x1 2
def S_Mo_check_j36 (n : Nat) (σ : mSt) (x1 : Int32) : Prop := S_Mo_check_j41 n σ x1 2
set_option maxRecDepth 100000 in
set_option maxHeartbeats 4000000 in
theorem w_Mo_check_j36 {p : Program} {l : Launch} {e : Env} {s : State} {m : MethodId} {args : Array Value} {below : List Frame} {meth : Method} {c : Code} {D : va_G} {cs : Nat → ClassId} {B : Nat} {dE : Nat × Nat} {mo : Nat} {ad : Nat → Nat} {M0 : gMem} (C : CallFix p m c c_Mo_check 3 s args gT R_Mo) (hE : gEnv D gcl (gtys cs) gz B dE s) (hr : meth.sig.returnType = (some .int)) (hlocks : meth.locks = false) (n : Nat) (σ : mSt) (x1 : Int32) (Fv : Int32 × mSt) (hS : S_Mo_check_j36 n σ x1) (hF : F_Mo_check_j36 n σ x1 = Fv) : GW p l e ({ frames := 5, cells := 0, slots := 0, locals := 121 } : Room) s m args below meth c 3 (gA B) (mQ below D cs B mo ad M0 (fun r σ' => r = some (.int Fv.1) ∧ σ' = Fv.2) args s) (mo_P D B cs mo ad M0 σ) 0 0 36 [(0, .ref mo), (1, .int x1)] [.ref mo] := by
  unfold F_Mo_check_j36 at hF
  unfold S_Mo_check_j36 at hS
  refine g_iconst (v := 2) C d_Mo_check_36 (by decide) ?_
  refine g_goto C 41 d_Mo_check_37 (by decide) ?_
  refine GW.subl [0, 1] rfl ?_
  exact w_Mo_check_j41 C hE hr hlocks n σ x1 2 Fv hS hF
def F_Mo_check (n : Nat) (σ : mSt) (x1 : Int32) : Int32 × mSt := mbind (F_Mo_isNode σ x1) (fun w1 => if w1.1 = 0 then (F_Mo_check_j41 n w1.2 x1 1) else (if 400 < (w1.2.2.2.1 12 x1.toNatClampNeg) then (F_Mo_check_j36 n w1.2 x1) else (if (w1.2.2.2.1 13 x1.toNatClampNeg) ≤ 40 then (F_Mo_check_j41 n w1.2 x1 0) else (F_Mo_check_j36 n w1.2 x1))))
def S_Mo_check (n : Nat) (σ : mSt) (x1 : Int32) : Prop := (S_Mo_isNode σ x1) ∧ (mbind (F_Mo_isNode σ x1) (fun w1 => if w1.1 = 0 then (S_Mo_check_j41 n w1.2 x1 1) else ((vp_in x1 200) ∧ (if 400 < (w1.2.2.2.1 12 x1.toNatClampNeg) then (S_Mo_check_j36 n w1.2 x1) else ((vp_in x1 200) ∧ (if (w1.2.2.2.1 13 x1.toNatClampNeg) ≤ 40 then (S_Mo_check_j41 n w1.2 x1 0) else (S_Mo_check_j36 n w1.2 x1)))))))
set_option maxRecDepth 100000 in
set_option maxHeartbeats 4000000 in
theorem mc_Mo_check (l : Launch) (D : va_G) (cs : Nat → ClassId) (B : Nat) (dE : Nat × Nat) (mo : Nat) (ad : Nat → Nat) (n : Nat) (σ : mSt) (x1 : Int32) (hS : S_Mo_check n σ x1) : mMet l y_Mo_check (Cond.code y_Mo_check c_Mo_check 3 (some .int)) ({ frames := 5, cells := 0, slots := 0, locals := 121 } : Room) D cs B dE mo ad [.ref mo, .int x1] σ (fun r σ' => r = some (.int (F_Mo_check n σ x1).1) ∧ σ' = (F_Mo_check n σ x1).2) := by
  refine mMet.ofW (by decide) rfl (Nat.le_of_ble_eq_true rfl) (lv0 := [(0, .ref mo), (1, .int x1)]) rfl ?_
  intro p e s m args below meth c M0 C hE hr hlocks
  generalize hF : F_Mo_check n σ x1 = Fv
  unfold F_Mo_check at hF
  unfold S_Mo_check at hS
  refine g_aload_n C d_Mo_check_0 rfl ?_
  refine g_aload_n C d_Mo_check_1 rfl ?_
  refine g_iload_n C d_Mo_check_2 rfl ?_
  obtain ⟨hs2, hS⟩ := hS
  refine m_callV (n := 1) (av := [.int x1]) (rest := [.ref mo]) C hE (mc_Mo_isNode l D cs B dE mo ad _ _ hs2) km_Mo_217 kv_Mo_isNode kl_Mo_isNode kd_Mo_isNode ki_Mo ⟨rfl, by decide, by decide, by decide⟩ rfl ⟨rfl, rfl⟩ (by decide) (by decide) d_Mo_check_3 (Nat.le_of_ble_eq_true rfl) _ rfl (fun v1 σ1 hv => ?_)
  obtain ⟨rfl, rfl⟩ := hv
  rw [mbind_eq] at hF hS
  generalize F_Mo_isNode σ x1 = w1 at hF hS ⊢
  refine GW.eqs (st' := [.int w1.1, .ref mo]) rfl ?_
  refine g_if_ne C 13 d_Mo_check_6 (by decide) (fun hc3 => ?_) (fun hc3 => ?_)
  · rw [if_neg hc3] at hF hS
    refine g_aload_n C d_Mo_check_13 rfl ?_
    refine m_geta C hE 12 (by decide) (by decide) (by decide) kf_Mo_31 d_Mo_check_14 ?_
    refine g_iload_n C d_Mo_check_17 rfl ?_
    obtain ⟨hi4, hS⟩ := hS
    refine m_ald C hE 12 (by decide) (by decide) hi4 d_Mo_check_18 ?_
    refine g_sipush (v := 400) C d_Mo_check_19 (by decide) ?_
    refine g_icmp_gt C 36 d_Mo_check_22 (by decide) (fun hc5 => ?_) (fun hc5 => ?_)
    · rw [if_pos hc5] at hF hS
      refine GW.subl [0, 1] rfl ?_
      exact w_Mo_check_j36 C hE hr hlocks n w1.2 x1 Fv hS hF
    · rw [if_neg hc5] at hF hS
      refine g_aload_n C d_Mo_check_25 rfl ?_
      refine m_geta C hE 13 (by decide) (by decide) (by decide) kf_Mo_34 d_Mo_check_26 ?_
      refine g_iload_n C d_Mo_check_29 rfl ?_
      obtain ⟨hi6, hS⟩ := hS
      refine m_ald C hE 13 (by decide) (by decide) hi6 d_Mo_check_30 ?_
      refine g_bipush (v := 40) C d_Mo_check_31 (by decide) ?_
      refine g_icmp_le C 40 d_Mo_check_33 (by decide) (fun hc7 => ?_) (fun hc7 => ?_)
      · rw [if_pos hc7] at hF hS
        refine g_iconst (v := 0) C d_Mo_check_40 (by decide) ?_
        refine GW.subl [0, 1] rfl ?_
        exact w_Mo_check_j41 C hE hr hlocks n w1.2 x1 0 Fv hS hF
      · rw [if_neg hc7] at hF hS
        refine GW.subl [0, 1] rfl ?_
        exact w_Mo_check_j36 C hE hr hlocks n w1.2 x1 Fv hS hF
  · rw [if_pos hc3] at hF hS
    refine g_iconst (v := 1) C d_Mo_check_9 (by decide) ?_
    refine g_goto C 41 d_Mo_check_10 (by decide) ?_
    refine GW.subl [0, 1] rfl ?_
    exact w_Mo_check_j41 C hE hr hlocks n w1.2 x1 1 Fv hS hF
def F_Mo_fault (σ : mSt) (x1 : Int32) : Int32 × mSt := if x1 = 0 then (((mo_si σ 4 0).1 34, mo_si σ 4 0)) else (if x1 = 1 then (((mo_si σ 4 0).1 35, mo_si σ 4 0)) else (if x1 = 2 then (if ((mo_si σ 4 0).1 39) = 0 then (((-1), mo_si σ 4 0)) else (if ((mo_si σ 4 0).1 34) = 0 then (((mo_si σ 4 0).1 38, mo_si σ 4 0)) else (((-1), mo_si σ 4 0)))) else (((-1), mo_si σ 4 0))))
def S_Mo_fault (σ : mSt) (x1 : Int32) : Prop := if x1 = 0 then (True) else (if x1 = 1 then (True) else (if x1 = 2 then (if ((mo_si σ 4 0).1 39) = 0 then (True) else (if ((mo_si σ 4 0).1 34) = 0 then (True) else (True))) else (True)))
set_option maxRecDepth 100000 in
set_option maxHeartbeats 4000000 in
theorem mc_Mo_fault (l : Launch) (D : va_G) (cs : Nat → ClassId) (B : Nat) (dE : Nat × Nat) (mo : Nat) (ad : Nat → Nat) (σ : mSt) (x1 : Int32) (hS : S_Mo_fault σ x1) : mMet l y_Mo_fault (Cond.code y_Mo_fault c_Mo_fault 2 (some .int)) ({ frames := 0, cells := 0, slots := 0, locals := 0 } : Room) D cs B dE mo ad [.ref mo, .int x1] σ (fun r σ' => r = some (.int (F_Mo_fault σ x1).1) ∧ σ' = (F_Mo_fault σ x1).2) := by
  refine mMet.ofW (by decide) rfl (Nat.le_of_ble_eq_true rfl) (lv0 := [(0, .ref mo), (1, .int x1)]) rfl ?_
  intro p e s m args below meth c M0 C hE hr hlocks
  generalize hF : F_Mo_fault σ x1 = Fv
  unfold F_Mo_fault at hF
  unfold S_Mo_fault at hS
  refine g_aload_n C d_Mo_fault_0 rfl ?_
  refine g_iconst (v := 0) C d_Mo_fault_1 (by decide) ?_
  refine m_puti C hE 4 (by decide) (by decide) rfl rfl kf_Mo_142 d_Mo_fault_2 ?_
  refine g_iload_n C d_Mo_fault_5 rfl ?_
  refine g_if_ne C 14 d_Mo_fault_6 (by decide) (fun hc1 => ?_) (fun hc1 => ?_)
  · rw [if_neg hc1] at hF hS
    refine g_iload_n C d_Mo_fault_14 rfl ?_
    refine g_iconst (v := 1) C d_Mo_fault_15 (by decide) ?_
    refine g_icmp_ne C 24 d_Mo_fault_16 (by decide) (fun hc2 => ?_) (fun hc2 => ?_)
    · rw [if_neg hc2] at hF hS
      refine g_iload_n C d_Mo_fault_24 rfl ?_
      refine g_iconst (v := 2) C d_Mo_fault_25 (by decide) ?_
      refine g_icmp_ne C 43 d_Mo_fault_26 (by decide) (fun hc3 => ?_) (fun hc3 => ?_)
      · rw [if_neg hc3] at hF hS
        refine g_iconst (v := (-1)) C d_Mo_fault_43 (by decide) ?_
        refine g_goto C 51 d_Mo_fault_44 (by decide) ?_
        exact m_iret C hr hlocks d_Mo_fault_51 (by rw [← hF]; exact ⟨rfl, rfl⟩)
      · rw [if_pos hc3] at hF hS
        refine g_aload_n C d_Mo_fault_29 rfl ?_
        refine m_geti C hE 39 (by decide) (by decide) kf_Mo_170 d_Mo_fault_30 ?_
        refine g_if_eq C 43 d_Mo_fault_33 (by decide) (fun hc4 => ?_) (fun hc4 => ?_)
        · rw [if_pos hc4] at hF hS
          refine g_iconst (v := (-1)) C d_Mo_fault_43 (by decide) ?_
          refine g_goto C 51 d_Mo_fault_44 (by decide) ?_
          exact m_iret C hr hlocks d_Mo_fault_51 (by rw [← hF]; exact ⟨rfl, rfl⟩)
        · rw [if_neg hc4] at hF hS
          refine g_aload_n C d_Mo_fault_36 rfl ?_
          refine m_geti C hE 34 (by decide) (by decide) kf_Mo_164 d_Mo_fault_37 ?_
          refine g_if_eq C 47 d_Mo_fault_40 (by decide) (fun hc5 => ?_) (fun hc5 => ?_)
          · rw [if_pos hc5] at hF hS
            refine g_aload_n C d_Mo_fault_47 rfl ?_
            refine m_geti C hE 38 (by decide) (by decide) kf_Mo_280 d_Mo_fault_48 ?_
            exact m_iret C hr hlocks d_Mo_fault_51 (by rw [← hF]; exact ⟨rfl, rfl⟩)
          · rw [if_neg hc5] at hF hS
            refine g_iconst (v := (-1)) C d_Mo_fault_43 (by decide) ?_
            refine g_goto C 51 d_Mo_fault_44 (by decide) ?_
            exact m_iret C hr hlocks d_Mo_fault_51 (by rw [← hF]; exact ⟨rfl, rfl⟩)
    · rw [if_pos hc2] at hF hS
      refine g_aload_n C d_Mo_fault_19 rfl ?_
      refine m_geti C hE 35 (by decide) (by decide) kf_Mo_167 d_Mo_fault_20 ?_
      exact m_iret C hr hlocks d_Mo_fault_23 (by rw [← hF]; exact ⟨rfl, rfl⟩)
  · rw [if_pos hc1] at hF hS
    refine g_aload_n C d_Mo_fault_9 rfl ?_
    refine m_geti C hE 34 (by decide) (by decide) kf_Mo_164 d_Mo_fault_10 ?_
    exact m_iret C hr hlocks d_Mo_fault_13 (by rw [← hF]; exact ⟨rfl, rfl⟩)
def F_Mo_start_j14 (σ : mSt) (z0 : Int32) : mSt := if ((mo_si σ 4 z0).1 4) = 0 then (mbind (F_Mo_begin (mo_si σ 4 z0)) (fun w3 => w3)) else (mo_si σ 4 z0)
def S_Mo_start_j14 (σ : mSt) (z0 : Int32) : Prop := if ((mo_si σ 4 z0).1 4) = 0 then ((S_Mo_begin (mo_si σ 4 z0)) ∧ (mbind (F_Mo_begin (mo_si σ 4 z0)) (fun w3 => True))) else (True)
set_option maxRecDepth 100000 in
set_option maxHeartbeats 4000000 in
theorem w_Mo_start_j14 {p : Program} {l : Launch} {e : Env} {s : State} {m : MethodId} {args : Array Value} {below : List Frame} {meth : Method} {c : Code} {D : va_G} {cs : Nat → ClassId} {B : Nat} {dE : Nat × Nat} {mo : Nat} {ad : Nat → Nat} {M0 : gMem} (C : CallFix p m c c_Mo_start 1 s args gT R_Mo) (hE : gEnv D gcl (gtys cs) gz B dE s) (hr : meth.sig.returnType = none) (hlocks : meth.locks = false) (σ : mSt) (z0 : Int32) (Fv : mSt) (hS : S_Mo_start_j14 σ z0) (hF : F_Mo_start_j14 σ z0 = Fv) : GW p l e ({ frames := 1, cells := 0, slots := 0, locals := 20 } : Room) s m args below meth c 1 (gA B) (mQ below D cs B mo ad M0 (fun r σ' => r = none ∧ σ' = Fv) args s) (mo_P D B cs mo ad M0 σ) 0 0 14 [(0, .ref mo)] [.int z0, .ref mo] := by
  unfold F_Mo_start_j14 at hF
  unfold S_Mo_start_j14 at hS
  refine m_puti C hE 4 (by decide) (by decide) rfl rfl kf_Mo_142 d_Mo_start_14 ?_
  refine g_aload_n C d_Mo_start_17 rfl ?_
  refine m_geti C hE 4 (by decide) (by decide) kf_Mo_142 d_Mo_start_18 ?_
  refine g_if_ne C 28 d_Mo_start_21 (by decide) (fun hc2 => ?_) (fun hc2 => ?_)
  · rw [if_neg hc2] at hF hS
    exact m_vret C hr hlocks d_Mo_start_28 (by rw [← hF]; exact ⟨rfl, rfl⟩)
  · rw [if_pos hc2] at hF hS
    refine g_aload_n C d_Mo_start_24 rfl ?_
    obtain ⟨hs4, hS⟩ := hS
    refine m_callV (n := 0) (av := []) (rest := []) C hE (mc_Mo_begin l D cs B dE mo ad _ hs4) km_Mo_274 kv_Mo_begin kl_Mo_begin kd_Mo_begin ki_Mo ⟨rfl, by decide, by decide, by decide⟩ rfl ⟨rfl, rfl⟩ (by decide) (by decide) d_Mo_start_25 (Nat.le_of_ble_eq_true rfl) _ rfl (fun v1 σ1 hv => ?_)
    obtain ⟨rfl, rfl⟩ := hv
    rw [mbind_eq] at hF hS
    generalize F_Mo_begin (mo_si σ 4 z0) = w3 at hF hS ⊢
    refine GW.eqs (st' := []) rfl ?_
    exact m_vret C hr hlocks d_Mo_start_28 (by rw [← hF]; exact ⟨rfl, rfl⟩)
def F_Mo_start (σ : mSt) : mSt := if (σ.1 36) = (-1) then (F_Mo_start_j14 σ 1) else (F_Mo_start_j14 σ 0)
def S_Mo_start (σ : mSt) : Prop := if (σ.1 36) = (-1) then (S_Mo_start_j14 σ 1) else (S_Mo_start_j14 σ 0)
set_option maxRecDepth 100000 in
set_option maxHeartbeats 4000000 in
theorem mc_Mo_start (l : Launch) (D : va_G) (cs : Nat → ClassId) (B : Nat) (dE : Nat × Nat) (mo : Nat) (ad : Nat → Nat) (σ : mSt) (hS : S_Mo_start σ) : mMet l y_Mo_start (Cond.code y_Mo_start c_Mo_start 1 none) ({ frames := 1, cells := 0, slots := 0, locals := 20 } : Room) D cs B dE mo ad [.ref mo] σ (fun r σ' => r = none ∧ σ' = F_Mo_start σ) := by
  refine mMet.ofW (by decide) rfl (Nat.le_of_ble_eq_true rfl) (lv0 := [(0, .ref mo)]) rfl ?_
  intro p e s m args below meth c M0 C hE hr hlocks
  generalize hF : F_Mo_start σ = Fv
  unfold F_Mo_start at hF
  unfold S_Mo_start at hS
  refine g_aload_n C d_Mo_start_0 rfl ?_
  refine g_aload_n C d_Mo_start_1 rfl ?_
  refine m_geti C hE 36 (by decide) (by decide) kf_Mo_158 d_Mo_start_2 ?_
  refine g_iconst (v := (-1)) C d_Mo_start_5 (by decide) ?_
  refine g_icmp_ne C 13 d_Mo_start_6 (by decide) (fun hc1 => ?_) (fun hc1 => ?_)
  · rw [if_neg hc1] at hF hS
    refine g_iconst (v := 0) C d_Mo_start_13 (by decide) ?_
    refine GW.subl [0] rfl ?_
    exact w_Mo_start_j14 C hE hr hlocks σ 0 Fv hS hF
  · rw [if_pos hc1] at hF hS
    refine g_iconst (v := 1) C d_Mo_start_9 (by decide) ?_
    refine g_goto C 14 d_Mo_start_10 (by decide) ?_
    refine GW.subl [0] rfl ?_
    exact w_Mo_start_j14 C hE hr hlocks σ 1 Fv hS hF
def F_Mo_push_32 : Nat → mSt → Int32 → mSt
  | 0, σ, _ => σ
  | n + 1, σ, x2 => if 10 ≤ x2 then (σ) else (F_Mo_push_32 n (mo_al σ 43 ((10 * (σ.1 44)) + x2).toNatClampNeg (σ.2.2.2 53 x2.toNatClampNeg)) (x2 + 1))
def S_Mo_push_32 : Nat → mSt → Int32 → Prop
  | 0, _, _ => False
  | n + 1, σ, x2 => if 10 ≤ x2 then (True) else ((vp_in x2 10) ∧ ((vp_in ((10 * (σ.1 44)) + x2) 170000) ∧ (S_Mo_push_32 n (mo_al σ 43 ((10 * (σ.1 44)) + x2).toNatClampNeg (σ.2.2.2 53 x2.toNatClampNeg)) (x2 + 1))))
set_option maxRecDepth 100000 in
set_option maxHeartbeats 4000000 in
theorem w_Mo_push_32 {p : Program} {l : Launch} {e : Env} {s : State} {m : MethodId} {args : Array Value} {below : List Frame} {meth : Method} {c : Code} {D : va_G} {cs : Nat → ClassId} {B : Nat} {dE : Nat × Nat} {mo : Nat} {ad : Nat → Nat} {M0 : gMem} {Q : State → Prop} (C : CallFix p m c c_Mo_push 3 s args gT R_Mo) (hE : gEnv D gcl (gtys cs) gz B dE s) (n : Nat) (σ : mSt) (x2 : Int32) (Fv : mSt) (hS : S_Mo_push_32 n σ x2) (hF : F_Mo_push_32 n σ x2 = Fv) (hk : GW p l e ({ frames := 0, cells := 0, slots := 0, locals := 0 } : Room) s m args below meth c 3 (gA B) Q (mo_P D B cs mo ad M0 Fv) 0 0 64 [(0, .ref mo)] []) : GW p l e ({ frames := 0, cells := 0, slots := 0, locals := 0 } : Room) s m args below meth c 3 (gA B) Q (mo_P D B cs mo ad M0 σ) 0 0 32 [(0, .ref mo), (2, .int x2)] [] := by
  induction n generalizing σ x2 Fv with
  | zero => exact hS.elim
  | succ n ih =>
    unfold F_Mo_push_32 at hF
    unfold S_Mo_push_32 at hS
    refine g_iload_n C d_Mo_push_32 rfl ?_
    refine g_bipush (v := 10) C d_Mo_push_33 (by decide) ?_
    refine g_icmp_ge C 64 d_Mo_push_35 (by decide) (fun hc6 => ?_) (fun hc6 => ?_)
    · rw [if_pos hc6] at hF hS
      refine GW.subl [0] rfl ?_
      rw [← hF] at hk
      exact hk
    · rw [if_neg hc6] at hF hS
      refine g_aload_n C d_Mo_push_38 rfl ?_
      refine m_geta C hE 43 (by decide) (by decide) (by decide) kf_Mo_101 d_Mo_push_39 ?_
      refine g_bipush (v := 10) C d_Mo_push_42 (by decide) ?_
      refine g_aload_n C d_Mo_push_44 rfl ?_
      refine m_geti C hE 44 (by decide) (by decide) kf_Mo_283 d_Mo_push_45 ?_
      refine g_imul C d_Mo_push_48 ?_
      refine g_iload_n C d_Mo_push_49 rfl ?_
      refine g_iadd C d_Mo_push_50 ?_
      refine g_aload_n C d_Mo_push_51 rfl ?_
      refine m_geta C hE 53 (by decide) (by decide) (by decide) kf_Mo_104 d_Mo_push_52 ?_
      refine g_iload_n C d_Mo_push_55 rfl ?_
      obtain ⟨hi7, hS⟩ := hS
      refine m_lald C hE 53 (by decide) (by decide) hi7 d_Mo_push_56 ?_
      obtain ⟨hi8, hS⟩ := hS
      refine m_last C hE 43 (by decide) (by decide) hi8 d_Mo_push_57 ?_
      refine g_iinc (v := x2 + 1) (lv' := [(2, .int (x2 + 1)), (0, .ref mo)]) C d_Mo_push_58 rfl rfl (by decide) rfl ?_
      refine g_goto C 32 d_Mo_push_61 (by decide) ?_
      refine GW.subl [1, 0] rfl ?_
      exact ih (mo_al σ 43 ((10 * (σ.1 44)) + x2).toNatClampNeg (σ.2.2.2 53 x2.toNatClampNeg)) (x2 + 1) Fv hS hF hk
def F_Mo_push (n : Nat) (σ : mSt) (x1 : Int32) : mSt := mbind (F_Mo_push_32 n (mo_al (mo_ai (mo_ai σ 40 (σ.1 44).toNatClampNeg x1) 41 ((mo_ai σ 40 (σ.1 44).toNatClampNeg x1).1 44).toNatClampNeg 0) 42 ((mo_ai (mo_ai σ 40 (σ.1 44).toNatClampNeg x1) 41 ((mo_ai σ 40 (σ.1 44).toNatClampNeg x1).1 44).toNatClampNeg 0).1 44).toNatClampNeg 0) 0) (fun w4 => mo_si w4 44 ((w4.1 44) + 1))
def S_Mo_push (n : Nat) (σ : mSt) (x1 : Int32) : Prop := (vp_in (σ.1 44) 17000) ∧ ((vp_in ((mo_ai σ 40 (σ.1 44).toNatClampNeg x1).1 44) 17000) ∧ ((vp_in ((mo_ai (mo_ai σ 40 (σ.1 44).toNatClampNeg x1) 41 ((mo_ai σ 40 (σ.1 44).toNatClampNeg x1).1 44).toNatClampNeg 0).1 44) 17000) ∧ ((S_Mo_push_32 n (mo_al (mo_ai (mo_ai σ 40 (σ.1 44).toNatClampNeg x1) 41 ((mo_ai σ 40 (σ.1 44).toNatClampNeg x1).1 44).toNatClampNeg 0) 42 ((mo_ai (mo_ai σ 40 (σ.1 44).toNatClampNeg x1) 41 ((mo_ai σ 40 (σ.1 44).toNatClampNeg x1).1 44).toNatClampNeg 0).1 44).toNatClampNeg 0) 0) ∧ (mbind (F_Mo_push_32 n (mo_al (mo_ai (mo_ai σ 40 (σ.1 44).toNatClampNeg x1) 41 ((mo_ai σ 40 (σ.1 44).toNatClampNeg x1).1 44).toNatClampNeg 0) 42 ((mo_ai (mo_ai σ 40 (σ.1 44).toNatClampNeg x1) 41 ((mo_ai σ 40 (σ.1 44).toNatClampNeg x1).1 44).toNatClampNeg 0).1 44).toNatClampNeg 0) 0) (fun w4 => True)))))
set_option maxRecDepth 100000 in
set_option maxHeartbeats 4000000 in
theorem mc_Mo_push (l : Launch) (D : va_G) (cs : Nat → ClassId) (B : Nat) (dE : Nat × Nat) (mo : Nat) (ad : Nat → Nat) (n : Nat) (σ : mSt) (x1 : Int32) (hS : S_Mo_push n σ x1) : mMet l y_Mo_push (Cond.code y_Mo_push c_Mo_push 3 none) ({ frames := 0, cells := 0, slots := 0, locals := 0 } : Room) D cs B dE mo ad [.ref mo, .int x1] σ (fun r σ' => r = none ∧ σ' = F_Mo_push n σ x1) := by
  refine mMet.ofW (by decide) rfl (Nat.le_of_ble_eq_true rfl) (lv0 := [(0, .ref mo), (1, .int x1)]) rfl ?_
  intro p e s m args below meth c M0 C hE hr hlocks
  generalize hF : F_Mo_push n σ x1 = Fv
  unfold F_Mo_push at hF
  unfold S_Mo_push at hS
  refine g_aload_n C d_Mo_push_0 rfl ?_
  refine m_geta C hE 40 (by decide) (by decide) (by decide) kf_Mo_90 d_Mo_push_1 ?_
  refine g_aload_n C d_Mo_push_4 rfl ?_
  refine m_geti C hE 44 (by decide) (by decide) kf_Mo_283 d_Mo_push_5 ?_
  refine g_iload_n C d_Mo_push_8 rfl ?_
  obtain ⟨hi1, hS⟩ := hS
  refine m_ast C hE 40 (by decide) (by decide) hi1 d_Mo_push_9 ?_
  refine g_aload_n C d_Mo_push_10 rfl ?_
  refine m_geta C hE 41 (by decide) (by decide) (by decide) kf_Mo_93 d_Mo_push_11 ?_
  refine g_aload_n C d_Mo_push_14 rfl ?_
  refine m_geti C hE 44 (by decide) (by decide) kf_Mo_283 d_Mo_push_15 ?_
  refine g_iconst (v := 0) C d_Mo_push_18 (by decide) ?_
  obtain ⟨hi2, hS⟩ := hS
  refine m_ast C hE 41 (by decide) (by decide) hi2 d_Mo_push_19 ?_
  refine g_aload_n C d_Mo_push_20 rfl ?_
  refine m_geta C hE 42 (by decide) (by decide) (by decide) kf_Mo_96 d_Mo_push_21 ?_
  refine g_aload_n C d_Mo_push_24 rfl ?_
  refine m_geti C hE 44 (by decide) (by decide) kf_Mo_283 d_Mo_push_25 ?_
  refine g_lconst (v := 0) C d_Mo_push_28 (by decide) ?_
  obtain ⟨hi3, hS⟩ := hS
  refine m_last C hE 42 (by decide) (by decide) hi3 d_Mo_push_29 ?_
  refine g_iconst (v := 0) C d_Mo_push_30 (by decide) ?_
  refine g_istore_n (lv' := [(2, .int 0), (0, .ref mo), (1, .int x1)]) C d_Mo_push_31 (by decide) rfl ?_
  obtain ⟨hs5, hS⟩ := hS
  rw [mbind_eq] at hF hS
  refine GW.subl [1, 0] rfl ?_
  refine w_Mo_push_32 C hE n (mo_al (mo_ai (mo_ai σ 40 (σ.1 44).toNatClampNeg x1) 41 ((mo_ai σ 40 (σ.1 44).toNatClampNeg x1).1 44).toNatClampNeg 0) 42 ((mo_ai (mo_ai σ 40 (σ.1 44).toNatClampNeg x1) 41 ((mo_ai σ 40 (σ.1 44).toNatClampNeg x1).1 44).toNatClampNeg 0).1 44).toNatClampNeg 0) 0 _ hs5 rfl ?_
  generalize F_Mo_push_32 n (mo_al (mo_ai (mo_ai σ 40 (σ.1 44).toNatClampNeg x1) 41 ((mo_ai σ 40 (σ.1 44).toNatClampNeg x1).1 44).toNatClampNeg 0) 42 ((mo_ai (mo_ai σ 40 (σ.1 44).toNatClampNeg x1) 41 ((mo_ai σ 40 (σ.1 44).toNatClampNeg x1).1 44).toNatClampNeg 0).1 44).toNatClampNeg 0) 0 = w4 at hF hS ⊢
  refine g_aload_n C d_Mo_push_64 rfl ?_
  refine g_dup C d_Mo_push_65 rfl ?_
  refine m_geti C hE 44 (by decide) (by decide) kf_Mo_283 d_Mo_push_66 ?_
  refine g_iconst (v := 1) C d_Mo_push_69 (by decide) ?_
  refine g_iadd C d_Mo_push_70 ?_
  refine m_puti C hE 44 (by decide) (by decide) rfl rfl kf_Mo_283 d_Mo_push_71 ?_
  exact m_vret C hr hlocks d_Mo_push_74 (by rw [← hF]; exact ⟨rfl, rfl⟩)
