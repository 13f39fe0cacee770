/-! the reference's methods as functions over its state: by program (wip/tools/decomp.py) -/
def F_Mo_choice_j31 (σ : mSt) (x1 : Int32) (x2 : Int32) (x3 : Int32) (z0 : Int32) : Int32 × mSt := mbind (F_Mo_add σ z0 0 x1 x2 x3) (fun w12 => (w12.1, w12.2))
def S_Mo_choice_j31 (σ : mSt) (x1 : Int32) (x2 : Int32) (x3 : Int32) (z0 : Int32) : Prop := (S_Mo_add σ z0 0 x1 x2 x3) ∧ (mbind (F_Mo_add σ z0 0 x1 x2 x3) (fun w12 => True))
set_option maxRecDepth 100000 in
set_option maxHeartbeats 4000000 in
theorem w_Mo_choice_j31 {p : Program} {l : Launch} {e : Env} {s : State} {m : MethodId} {args : Array Value} {below : List Frame} {meth : Method} {c : Code} {D : va_G} {cs : Nat → ClassId} {B : Nat} {dE : Nat × Nat} {mo : Nat} {ad : Nat → Nat} {M0 : gMem} (C : CallFix p m c c_Mo_choice 4 s args gT R_Mo) (hE : gEnv D gcl (gtys cs) gz B dE s) (hr : meth.sig.returnType = (some .int)) (hlocks : meth.locks = false) (σ : mSt) (x1 : Int32) (x2 : Int32) (x3 : Int32) (z0 : Int32) (Fv : Int32 × mSt) (hS : S_Mo_choice_j31 σ x1 x2 x3 z0) (hF : F_Mo_choice_j31 σ x1 x2 x3 z0 = Fv) : GW p l e ({ frames := 2, cells := 0, slots := 0, locals := 48 } : Room) s m args below meth c 4 (gA B) (mQ below D cs B mo ad M0 (fun r σ' => r = some (.int Fv.1) ∧ σ' = Fv.2) args s) (mo_P D B cs mo ad M0 σ) 0 0 31 [(0, .ref mo), (1, .int x1), (2, .int x2), (3, .int x3)] [.int z0, .ref mo] := by
  unfold F_Mo_choice_j31 at hF
  unfold S_Mo_choice_j31 at hS
  refine g_iconst (v := 0) C d_Mo_choice_31 (by decide) ?_
  refine g_iload_n C d_Mo_choice_32 rfl ?_
  refine g_iload_n C d_Mo_choice_33 rfl ?_
  refine g_iload_n C d_Mo_choice_34 rfl ?_
  obtain ⟨hs13, hS⟩ := hS
  refine m_callV (n := 5) (av := [.int z0, .int 0, .int x1, .int x2, .int x3]) (rest := []) C hE (mc_Mo_add l D cs B dE mo ad _ _ _ _ _ _ hs13) km_Mo_213 kv_Mo_add kl_Mo_add kd_Mo_add ki_Mo ⟨rfl, by decide, by decide, by decide⟩ rfl ⟨rfl, rfl⟩ (by decide) (by decide) d_Mo_choice_35 (Nat.le_of_ble_eq_true rfl) _ rfl (fun v1 σ1 hv => ?_)
  obtain ⟨rfl, rfl⟩ := hv
  rw [mbind_eq] at hF hS
  generalize F_Mo_add σ z0 0 x1 x2 x3 = w12 at hF hS ⊢
  refine GW.eqs (st' := [.int w12.1]) rfl ?_
  exact m_iret C hr hlocks d_Mo_choice_38 (by rw [← hF]; exact ⟨rfl, rfl⟩)
def F_Mo_choice (σ : mSt) (x1 : Int32) (x2 : Int32) (x3 : Int32) : Int32 × mSt := mbind (F_Mo_isNode σ x1) (fun w1 => if w1.1 = 0 then (F_Mo_choice_j31 w1.2 x1 x2 x3 6) else (mbind (F_Mo_isNode w1.2 x2) (fun w4 => if w4.1 = 0 then (F_Mo_choice_j31 w4.2 x1 x2 x3 6) else (mbind (F_Mo_isNode w4.2 x3) (fun w7 => if w7.1 = 0 then (F_Mo_choice_j31 w7.2 x1 x2 x3 6) else (mbind (F_Mo_add w7.2 6 1 x1 x2 x3) (fun w10 => (w10.1, w10.2))))))))
def S_Mo_choice (σ : mSt) (x1 : Int32) (x2 : Int32) (x3 : Int32) : Prop := (S_Mo_isNode σ x1) ∧ (mbind (F_Mo_isNode σ x1) (fun w1 => if w1.1 = 0 then (S_Mo_choice_j31 w1.2 x1 x2 x3 6) else ((S_Mo_isNode w1.2 x2) ∧ (mbind (F_Mo_isNode w1.2 x2) (fun w4 => if w4.1 = 0 then (S_Mo_choice_j31 w4.2 x1 x2 x3 6) else ((S_Mo_isNode w4.2 x3) ∧ (mbind (F_Mo_isNode w4.2 x3) (fun w7 => if w7.1 = 0 then (S_Mo_choice_j31 w7.2 x1 x2 x3 6) else ((S_Mo_add w7.2 6 1 x1 x2 x3) ∧ (mbind (F_Mo_add w7.2 6 1 x1 x2 x3) (fun w10 => True)))))))))))
set_option maxRecDepth 100000 in
set_option maxHeartbeats 4000000 in
theorem mc_Mo_choice (l : Launch) (D : va_G) (cs : Nat → ClassId) (B : Nat) (dE : Nat × Nat) (mo : Nat) (ad : Nat → Nat) (σ : mSt) (x1 : Int32) (x2 : Int32) (x3 : Int32) (hS : S_Mo_choice σ x1 x2 x3) : mMet l y_Mo_choice (Cond.code y_Mo_choice c_Mo_choice 4 (some .int)) ({ frames := 2, cells := 0, slots := 0, locals := 48 } : Room) D cs B dE mo ad [.ref mo, .int x1, .int x2, .int x3] σ (fun r σ' => r = some (.int (F_Mo_choice σ x1 x2 x3).1) ∧ σ' = (F_Mo_choice σ x1 x2 x3).2) := by
  refine mMet.ofW (by decide) rfl (Nat.le_of_ble_eq_true rfl) (lv0 := [(0, .ref mo), (1, .int x1), (2, .int x2), (3, .int x3)]) rfl ?_
  intro p e s m args below meth c M0 C hE hr hlocks
  generalize hF : F_Mo_choice σ x1 x2 x3 = Fv
  unfold F_Mo_choice at hF
  unfold S_Mo_choice at hS
  refine g_aload_n C d_Mo_choice_0 rfl ?_
  refine g_bipush (v := 6) C d_Mo_choice_1 (by decide) ?_
  refine g_aload_n C d_Mo_choice_3 rfl ?_
  refine g_iload_n C d_Mo_choice_4 rfl ?_
  obtain ⟨hs2, hS⟩ := hS
  refine m_callV (n := 1) (av := [.int x1]) (rest := [.int 6, .ref mo]) C hE (mc_Mo_isNode l D cs B dE mo ad _ _ hs2) km_Mo_217 kv_Mo_isNode kl_Mo_isNode kd_Mo_isNode ki_Mo ⟨rfl, by decide, by decide, by decide⟩ rfl ⟨rfl, rfl⟩ (by decide) (by decide) d_Mo_choice_5 (Nat.le_of_ble_eq_true rfl) _ rfl (fun v1 σ1 hv => ?_)
  obtain ⟨rfl, rfl⟩ := hv
  rw [mbind_eq] at hF hS
  generalize F_Mo_isNode σ x1 = w1 at hF hS ⊢
  refine GW.eqs (st' := [.int w1.1, .int 6, .ref mo]) rfl ?_
  refine g_if_eq C 31 d_Mo_choice_8 (by decide) (fun hc3 => ?_) (fun hc3 => ?_)
  · rw [if_pos hc3] at hF hS
    refine GW.subl [0, 1, 2, 3] rfl ?_
    exact w_Mo_choice_j31 C hE hr hlocks w1.2 x1 x2 x3 6 Fv hS hF
  · rw [if_neg hc3] at hF hS
    refine g_aload_n C d_Mo_choice_11 rfl ?_
    refine g_iload_n C d_Mo_choice_12 rfl ?_
    obtain ⟨hs5, hS⟩ := hS
    refine m_callV (n := 1) (av := [.int x2]) (rest := [.int 6, .ref mo]) C hE (mc_Mo_isNode l D cs B dE mo ad _ _ hs5) km_Mo_217 kv_Mo_isNode kl_Mo_isNode kd_Mo_isNode ki_Mo ⟨rfl, by decide, by decide, by decide⟩ rfl ⟨rfl, rfl⟩ (by decide) (by decide) d_Mo_choice_13 (Nat.le_of_ble_eq_true rfl) _ rfl (fun v1 σ1 hv => ?_)
    obtain ⟨rfl, rfl⟩ := hv
    rw [mbind_eq] at hF hS
    generalize F_Mo_isNode w1.2 x2 = w4 at hF hS ⊢
    refine GW.eqs (st' := [.int w4.1, .int 6, .ref mo]) rfl ?_
    refine g_if_eq C 31 d_Mo_choice_16 (by decide) (fun hc6 => ?_) (fun hc6 => ?_)
    · rw [if_pos hc6] at hF hS
      refine GW.subl [0, 1, 2, 3] rfl ?_
      exact w_Mo_choice_j31 C hE hr hlocks w4.2 x1 x2 x3 6 Fv hS hF
    · rw [if_neg hc6] at hF hS
      refine g_aload_n C d_Mo_choice_19 rfl ?_
      refine g_iload_n C d_Mo_choice_20 rfl ?_
      obtain ⟨hs8, hS⟩ := hS
      refine m_callV (n := 1) (av := [.int x3]) (rest := [.int 6, .ref mo]) C hE (mc_Mo_isNode l D cs B dE mo ad _ _ hs8) km_Mo_217 kv_Mo_isNode kl_Mo_isNode kd_Mo_isNode ki_Mo ⟨rfl, by decide, by decide, by decide⟩ rfl ⟨rfl, rfl⟩ (by decide) (by decide) d_Mo_choice_21 (Nat.le_of_ble_eq_true rfl) _ rfl (fun v1 σ1 hv => ?_)
      obtain ⟨rfl, rfl⟩ := hv
      rw [mbind_eq] at hF hS
      generalize F_Mo_isNode w4.2 x3 = w7 at hF hS ⊢
      refine GW.eqs (st' := [.int w7.1, .int 6, .ref mo]) rfl ?_
      refine g_if_eq C 31 d_Mo_choice_24 (by decide) (fun hc9 => ?_) (fun hc9 => ?_)
      · rw [if_pos hc9] at hF hS
        refine GW.subl [0, 1, 2, 3] rfl ?_
        exact w_Mo_choice_j31 C hE hr hlocks w7.2 x1 x2 x3 6 Fv hS hF
      · rw [if_neg hc9] at hF hS
        refine g_iconst (v := 1) C d_Mo_choice_27 (by decide) ?_
        refine g_goto C 32 d_Mo_choice_28 (by decide) ?_
        refine g_iload_n C d_Mo_choice_32 rfl ?_
        refine g_iload_n C d_Mo_choice_33 rfl ?_
        refine g_iload_n C d_Mo_choice_34 rfl ?_
        obtain ⟨hs11, hS⟩ := hS
        refine m_callV (n := 5) (av := [.int 6, .int 1, .int x1, .int x2, .int x3]) (rest := []) C hE (mc_Mo_add l D cs B dE mo ad _ _ _ _ _ _ hs11) km_Mo_213 kv_Mo_add kl_Mo_add kd_Mo_add ki_Mo ⟨rfl, by decide, by decide, by decide⟩ rfl ⟨rfl, rfl⟩ (by decide) (by decide) d_Mo_choice_35 (Nat.le_of_ble_eq_true rfl) _ rfl (fun v1 σ1 hv => ?_)
        obtain ⟨rfl, rfl⟩ := hv
        rw [mbind_eq] at hF hS
        generalize F_Mo_add w7.2 6 1 x1 x2 x3 = w10 at hF hS ⊢
        refine GW.eqs (st' := [.int w10.1]) rfl ?_
        exact m_iret C hr hlocks d_Mo_choice_38 (by rw [← hF]; exact ⟨rfl, rfl⟩)
def F_Mo_fn_j31 (σ : mSt) (x1 : Int32) (x2 : Int32) (x3 : Int32) (z0 : Int32) (z1 : Int32) : Int32 × mSt := mbind (F_Mo_add σ z1 z0 x3 (-1) (-1)) (fun w10 => if (w10.2.1 4) = 0 then ((w10.1, mo_ai (mo_ai w10.2 6 w10.1.toNatClampNeg x1) 7 w10.1.toNatClampNeg x2)) else ((0, w10.2)))
def S_Mo_fn_j31 (σ : mSt) (x1 : Int32) (x2 : Int32) (x3 : Int32) (z0 : Int32) (z1 : Int32) : Prop := (S_Mo_add σ z1 z0 x3 (-1) (-1)) ∧ (mbind (F_Mo_add σ z1 z0 x3 (-1) (-1)) (fun w10 => if (w10.2.1 4) = 0 then ((vp_in w10.1 200) ∧ ((vp_in w10.1 200) ∧ (True))) else (True)))
set_option maxRecDepth 100000 in
set_option maxHeartbeats 4000000 in
theorem w_Mo_fn_j31 {p : Program} {l : Launch} {e : Env} {s : State} {m : MethodId} {args : Array Value} {below : List Frame} {meth : Method} {c : Code} {D : va_G} {cs : Nat → ClassId} {B : Nat} {dE : Nat × Nat} {mo : Nat} {ad : Nat → Nat} {M0 : gMem} (C : CallFix p m c c_Mo_fn 5 s args gT R_Mo) (hE : gEnv D gcl (gtys cs) gz B dE s) (hr : meth.sig.returnType = (some .int)) (hlocks : meth.locks = false) (σ : mSt) (x1 : Int32) (x2 : Int32) (x3 : Int32) (z0 : Int32) (z1 : Int32) (Fv : Int32 × mSt) (hS : S_Mo_fn_j31 σ x1 x2 x3 z0 z1) (hF : F_Mo_fn_j31 σ x1 x2 x3 z0 z1 = Fv) : GW p l e ({ frames := 2, cells := 0, slots := 0, locals := 48 } : Room) s m args below meth c 5 (gA B) (mQ below D cs B mo ad M0 (fun r σ' => r = some (.int Fv.1) ∧ σ' = Fv.2) args s) (mo_P D B cs mo ad M0 σ) 0 0 31 [(0, .ref mo), (1, .int x1), (2, .int x2), (3, .int x3)] [.int z0, .int z1, .ref mo] := by
  unfold F_Mo_fn_j31 at hF
  unfold S_Mo_fn_j31 at hS
  refine g_iload_n C d_Mo_fn_31 rfl ?_
  refine g_iconst (v := (-1)) C d_Mo_fn_32 (by decide) ?_
  refine g_iconst (v := (-1)) C d_Mo_fn_33 (by decide) ?_
  obtain ⟨hs11, hS⟩ := hS
  refine m_callV (n := 5) (av := [.int z1, .int z0, .int x3, .int (-1), .int (-1)]) (rest := []) C hE (mc_Mo_add l D cs B dE mo ad _ _ _ _ _ _ hs11) km_Mo_213 kv_Mo_add kl_Mo_add kd_Mo_add ki_Mo ⟨rfl, by decide, by decide, by decide⟩ rfl ⟨rfl, rfl⟩ (by decide) (by decide) d_Mo_fn_34 (Nat.le_of_ble_eq_true rfl) _ rfl (fun v1 σ1 hv => ?_)
  obtain ⟨rfl, rfl⟩ := hv
  rw [mbind_eq] at hF hS
  generalize F_Mo_add σ z1 z0 x3 (-1) (-1) = w10 at hF hS ⊢
  refine GW.eqs (st' := [.int w10.1]) rfl ?_
  refine g_istore (lv' := [(4, .int w10.1), (0, .ref mo), (1, .int x1), (2, .int x2), (3, .int x3)]) C d_Mo_fn_37 (by decide) rfl ?_
  refine g_aload_n C d_Mo_fn_39 rfl ?_
  refine m_geti C hE 4 (by decide) (by decide) kf_Mo_142 d_Mo_fn_40 ?_
  refine g_if_eq C 48 d_Mo_fn_43 (by decide) (fun hc12 => ?_) (fun hc12 => ?_)
  · rw [if_pos hc12] at hF hS
    refine g_aload_n C d_Mo_fn_48 rfl ?_
    refine m_geta C hE 6 (by decide) (by decide) (by decide) kf_Mo_13 d_Mo_fn_49 ?_
    refine g_iload C d_Mo_fn_52 rfl ?_
    refine g_iload_n C d_Mo_fn_54 rfl ?_
    obtain ⟨hi13, hS⟩ := hS
    refine m_ast C hE 6 (by decide) (by decide) hi13 d_Mo_fn_55 ?_
    refine g_aload_n C d_Mo_fn_56 rfl ?_
    refine m_geta C hE 7 (by decide) (by decide) (by decide) kf_Mo_16 d_Mo_fn_57 ?_
    refine g_iload C d_Mo_fn_60 rfl ?_
    refine g_iload_n C d_Mo_fn_62 rfl ?_
    obtain ⟨hi14, hS⟩ := hS
    refine m_ast C hE 7 (by decide) (by decide) hi14 d_Mo_fn_63 ?_
    refine g_iload C d_Mo_fn_64 rfl ?_
    exact m_iret C hr hlocks d_Mo_fn_66 (by rw [← hF]; exact ⟨rfl, rfl⟩)
  · rw [if_neg hc12] at hF hS
    refine g_iconst (v := 0) C d_Mo_fn_46 (by decide) ?_
    exact m_iret C hr hlocks d_Mo_fn_47 (by rw [← hF]; exact ⟨rfl, rfl⟩)
def F_Mo_fn_j30 (σ : mSt) (x1 : Int32) (x2 : Int32) (x3 : Int32) (z0 : Int32) : Int32 × mSt := F_Mo_fn_j31 σ x1 x2 x3 0 z0
def S_Mo_fn_j30 (σ : mSt) (x1 : Int32) (x2 : Int32) (x3 : Int32) (z0 : Int32) : Prop := S_Mo_fn_j31 σ x1 x2 x3 0 z0
set_option maxRecDepth 100000 in
set_option maxHeartbeats 4000000 in
theorem w_Mo_fn_j30 {p : Program} {l : Launch} {e : Env} {s : State} {m : MethodId} {args : Array Value} {below : List Frame} {meth : Method} {c : Code} {D : va_G} {cs : Nat → ClassId} {B : Nat} {dE : Nat × Nat} {mo : Nat} {ad : Nat → Nat} {M0 : gMem} (C : CallFix p m c c_Mo_fn 5 s args gT R_Mo) (hE : gEnv D gcl (gtys cs) gz B dE s) (hr : meth.sig.returnType = (some .int)) (hlocks : meth.locks = false) (σ : mSt) (x1 : Int32) (x2 : Int32) (x3 : Int32) (z0 : Int32) (Fv : Int32 × mSt) (hS : S_Mo_fn_j30 σ x1 x2 x3 z0) (hF : F_Mo_fn_j30 σ x1 x2 x3 z0 = Fv) : GW p l e ({ frames := 2, cells := 0, slots := 0, locals := 48 } : Room) s m args below meth c 5 (gA B) (mQ below D cs B mo ad M0 (fun r σ' => r = some (.int Fv.1) ∧ σ' = Fv.2) args s) (mo_P D B cs mo ad M0 σ) 0 0 30 [(0, .ref mo), (1, .int x1), (2, .int x2), (3, .int x3)] [.int z0, .ref mo] := by
  unfold F_Mo_fn_j30 at hF
  unfold S_Mo_fn_j30 at hS
  refine g_iconst (v := 0) C d_Mo_fn_30 (by decide) ?_
  refine GW.subl [0, 1, 2, 3] rfl ?_
  exact w_Mo_fn_j31 C hE hr hlocks σ x1 x2 x3 0 z0 Fv hS hF
def F_Mo_fn (σ : mSt) (x1 : Int32) (x2 : Int32) (x3 : Int32) : Int32 × mSt := mbind (F_Mo_isName σ x1) (fun w1 => if w1.1 = 0 then (F_Mo_fn_j30 w1.2 x1 x2 x3 7) else (mbind (F_Mo_isType w1.2 x2) (fun w4 => if w4.1 = 0 then (F_Mo_fn_j30 w4.2 x1 x2 x3 7) else (mbind (F_Mo_isNode w4.2 x3) (fun w7 => if w7.1 = 0 then (F_Mo_fn_j30 w7.2 x1 x2 x3 7) else (F_Mo_fn_j31 w7.2 x1 x2 x3 1 7))))))
def S_Mo_fn (σ : mSt) (x1 : Int32) (x2 : Int32) (x3 : Int32) : Prop := (S_Mo_isName σ x1) ∧ (mbind (F_Mo_isName σ x1) (fun w1 => if w1.1 = 0 then (S_Mo_fn_j30 w1.2 x1 x2 x3 7) else ((S_Mo_isType w1.2 x2) ∧ (mbind (F_Mo_isType w1.2 x2) (fun w4 => if w4.1 = 0 then (S_Mo_fn_j30 w4.2 x1 x2 x3 7) else ((S_Mo_isNode w4.2 x3) ∧ (mbind (F_Mo_isNode w4.2 x3) (fun w7 => if w7.1 = 0 then (S_Mo_fn_j30 w7.2 x1 x2 x3 7) else (S_Mo_fn_j31 w7.2 x1 x2 x3 1 7)))))))))
set_option maxRecDepth 100000 in
set_option maxHeartbeats 4000000 in
theorem mc_Mo_fn (l : Launch) (D : va_G) (cs : Nat → ClassId) (B : Nat) (dE : Nat × Nat) (mo : Nat) (ad : Nat → Nat) (σ : mSt) (x1 : Int32) (x2 : Int32) (x3 : Int32) (hS : S_Mo_fn σ x1 x2 x3) : mMet l y_Mo_fn (Cond.code y_Mo_fn c_Mo_fn 5 (some .int)) ({ frames := 2, cells := 0, slots := 0, locals := 48 } : Room) D cs B dE mo ad [.ref mo, .int x1, .int x2, .int x3] σ (fun r σ' => r = some (.int (F_Mo_fn σ x1 x2 x3).1) ∧ σ' = (F_Mo_fn σ x1 x2 x3).2) := by
  refine mMet.ofW (by decide) rfl (Nat.le_of_ble_eq_true rfl) (lv0 := [(0, .ref mo), (1, .int x1), (2, .int x2), (3, .int x3)]) rfl ?_
  intro p e s m args below meth c M0 C hE hr hlocks
  generalize hF : F_Mo_fn σ x1 x2 x3 = Fv
  unfold F_Mo_fn at hF
  unfold S_Mo_fn at hS
  refine g_aload_n C d_Mo_fn_0 rfl ?_
  refine g_bipush (v := 7) C d_Mo_fn_1 (by decide) ?_
  refine g_iload_n C d_Mo_fn_3 rfl ?_
  obtain ⟨hs2, hS⟩ := hS
  refine m_callS (n := 1) (av := [.int x1]) (rest := [.int 7, .ref mo]) C hE (mc_Mo_isName l D cs B dE mo ad _ _ hs2) km_Mo_210 ks_Mo_isName kd_Mo_isName ki_Mo ⟨rfl, by decide, by decide, by decide⟩ rfl ⟨rfl, rfl⟩ (by decide) (by decide) d_Mo_fn_4 (Nat.le_of_ble_eq_true rfl) _ rfl (fun v1 σ1 hv => ?_)
  obtain ⟨rfl, rfl⟩ := hv
  rw [mbind_eq] at hF hS
  generalize F_Mo_isName σ x1 = w1 at hF hS ⊢
  refine GW.eqs (st' := [.int w1.1, .int 7, .ref mo]) rfl ?_
  refine g_if_eq C 30 d_Mo_fn_7 (by decide) (fun hc3 => ?_) (fun hc3 => ?_)
  · rw [if_pos hc3] at hF hS
    refine GW.subl [0, 1, 2, 3] rfl ?_
    exact w_Mo_fn_j30 C hE hr hlocks w1.2 x1 x2 x3 7 Fv hS hF
  · rw [if_neg hc3] at hF hS
    refine g_aload_n C d_Mo_fn_10 rfl ?_
    refine g_iload_n C d_Mo_fn_11 rfl ?_
    obtain ⟨hs5, hS⟩ := hS
    refine m_callV (n := 1) (av := [.int x2]) (rest := [.int 7, .ref mo]) C hE (mc_Mo_isType l D cs B dE mo ad _ _ hs5) km_Mo_194 kv_Mo_isType kl_Mo_isType kd_Mo_isType ki_Mo ⟨rfl, by decide, by decide, by decide⟩ rfl ⟨rfl, rfl⟩ (by decide) (by decide) d_Mo_fn_12 (Nat.le_of_ble_eq_true rfl) _ rfl (fun v1 σ1 hv => ?_)
    obtain ⟨rfl, rfl⟩ := hv
    rw [mbind_eq] at hF hS
    generalize F_Mo_isType w1.2 x2 = w4 at hF hS ⊢
    refine GW.eqs (st' := [.int w4.1, .int 7, .ref mo]) rfl ?_
    refine g_if_eq C 30 d_Mo_fn_15 (by decide) (fun hc6 => ?_) (fun hc6 => ?_)
    · rw [if_pos hc6] at hF hS
      refine GW.subl [0, 1, 2, 3] rfl ?_
      exact w_Mo_fn_j30 C hE hr hlocks w4.2 x1 x2 x3 7 Fv hS hF
    · rw [if_neg hc6] at hF hS
      refine g_aload_n C d_Mo_fn_18 rfl ?_
      refine g_iload_n C d_Mo_fn_19 rfl ?_
      obtain ⟨hs8, hS⟩ := hS
      refine m_callV (n := 1) (av := [.int x3]) (rest := [.int 7, .ref mo]) C hE (mc_Mo_isNode l D cs B dE mo ad _ _ hs8) km_Mo_217 kv_Mo_isNode kl_Mo_isNode kd_Mo_isNode ki_Mo ⟨rfl, by decide, by decide, by decide⟩ rfl ⟨rfl, rfl⟩ (by decide) (by decide) d_Mo_fn_20 (Nat.le_of_ble_eq_true rfl) _ rfl (fun v1 σ1 hv => ?_)
      obtain ⟨rfl, rfl⟩ := hv
      rw [mbind_eq] at hF hS
      generalize F_Mo_isNode w4.2 x3 = w7 at hF hS ⊢
      refine GW.eqs (st' := [.int w7.1, .int 7, .ref mo]) rfl ?_
      refine g_if_eq C 30 d_Mo_fn_23 (by decide) (fun hc9 => ?_) (fun hc9 => ?_)
      · rw [if_pos hc9] at hF hS
        refine GW.subl [0, 1, 2, 3] rfl ?_
        exact w_Mo_fn_j30 C hE hr hlocks w7.2 x1 x2 x3 7 Fv hS hF
      · rw [if_neg hc9] at hF hS
        refine g_iconst (v := 1) C d_Mo_fn_26 (by decide) ?_
        refine g_goto C 31 d_Mo_fn_27 (by decide) ?_
        refine GW.subl [0, 1, 2, 3] rfl ?_
        exact w_Mo_fn_j31 C hE hr hlocks w7.2 x1 x2 x3 1 7 Fv hS hF
def F_Mo_clause_j49 (σ : mSt) (x1 : Int32) (x2 : Int32) (x3 : Int32) (x4 : Int32) (z0 : Int32) : Int32 × mSt := if ((mo_si σ 4 z0).1 4) = 0 then (((mo_si (mo_si (mo_ai (mo_ai (mo_ai (mo_ai (mo_si σ 4 z0) 16 ((mo_si σ 4 z0).1 1).toNatClampNeg x1) 17 ((mo_ai (mo_si σ 4 z0) 16 ((mo_si σ 4 z0).1 1).toNatClampNeg x1).1 1).toNatClampNeg x2) 18 ((mo_ai (mo_ai (mo_si σ 4 z0) 16 ((mo_si σ 4 z0).1 1).toNatClampNeg x1) 17 ((mo_ai (mo_si σ 4 z0) 16 ((mo_si σ 4 z0).1 1).toNatClampNeg x1).1 1).toNatClampNeg x2).1 1).toNatClampNeg x3) 19 ((mo_ai (mo_ai (mo_ai (mo_si σ 4 z0) 16 ((mo_si σ 4 z0).1 1).toNatClampNeg x1) 17 ((mo_ai (mo_si σ 4 z0) 16 ((mo_si σ 4 z0).1 1).toNatClampNeg x1).1 1).toNatClampNeg x2) 18 ((mo_ai (mo_ai (mo_si σ 4 z0) 16 ((mo_si σ 4 z0).1 1).toNatClampNeg x1) 17 ((mo_ai (mo_si σ 4 z0) 16 ((mo_si σ 4 z0).1 1).toNatClampNeg x1).1 1).toNatClampNeg x2).1 1).toNatClampNeg x3).1 1).toNatClampNeg x4) 1 (((mo_ai (mo_ai (mo_ai (mo_ai (mo_si σ 4 z0) 16 ((mo_si σ 4 z0).1 1).toNatClampNeg x1) 17 ((mo_ai (mo_si σ 4 z0) 16 ((mo_si σ 4 z0).1 1).toNatClampNeg x1).1 1).toNatClampNeg x2) 18 ((mo_ai (mo_ai (mo_si σ 4 z0) 16 ((mo_si σ 4 z0).1 1).toNatClampNeg x1) 17 ((mo_ai (mo_si σ 4 z0) 16 ((mo_si σ 4 z0).1 1).toNatClampNeg x1).1 1).toNatClampNeg x2).1 1).toNatClampNeg x3) 19 ((mo_ai (mo_ai (mo_ai (mo_si σ 4 z0) 16 ((mo_si σ 4 z0).1 1).toNatClampNeg x1) 17 ((mo_ai (mo_si σ 4 z0) 16 ((mo_si σ 4 z0).1 1).toNatClampNeg x1).1 1).toNatClampNeg x2) 18 ((mo_ai (mo_ai (mo_si σ 4 z0) 16 ((mo_si σ 4 z0).1 1).toNatClampNeg x1) 17 ((mo_ai (mo_si σ 4 z0) 16 ((mo_si σ 4 z0).1 1).toNatClampNeg x1).1 1).toNatClampNeg x2).1 1).toNatClampNeg x3).1 1).toNatClampNeg x4).1 1) + 1)) 2 (((mo_si (mo_ai (mo_ai (mo_ai (mo_ai (mo_si σ 4 z0) 16 ((mo_si σ 4 z0).1 1).toNatClampNeg x1) 17 ((mo_ai (mo_si σ 4 z0) 16 ((mo_si σ 4 z0).1 1).toNatClampNeg x1).1 1).toNatClampNeg x2) 18 ((mo_ai (mo_ai (mo_si σ 4 z0) 16 ((mo_si σ 4 z0).1 1).toNatClampNeg x1) 17 ((mo_ai (mo_si σ 4 z0) 16 ((mo_si σ 4 z0).1 1).toNatClampNeg x1).1 1).toNatClampNeg x2).1 1).toNatClampNeg x3) 19 ((mo_ai (mo_ai (mo_ai (mo_si σ 4 z0) 16 ((mo_si σ 4 z0).1 1).toNatClampNeg x1) 17 ((mo_ai (mo_si σ 4 z0) 16 ((mo_si σ 4 z0).1 1).toNatClampNeg x1).1 1).toNatClampNeg x2) 18 ((mo_ai (mo_ai (mo_si σ 4 z0) 16 ((mo_si σ 4 z0).1 1).toNatClampNeg x1) 17 ((mo_ai (mo_si σ 4 z0) 16 ((mo_si σ 4 z0).1 1).toNatClampNeg x1).1 1).toNatClampNeg x2).1 1).toNatClampNeg x3).1 1).toNatClampNeg x4) 1 (((mo_ai (mo_ai (mo_ai (mo_ai (mo_si σ 4 z0) 16 ((mo_si σ 4 z0).1 1).toNatClampNeg x1) 17 ((mo_ai (mo_si σ 4 z0) 16 ((mo_si σ 4 z0).1 1).toNatClampNeg x1).1 1).toNatClampNeg x2) 18 ((mo_ai (mo_ai (mo_si σ 4 z0) 16 ((mo_si σ 4 z0).1 1).toNatClampNeg x1) 17 ((mo_ai (mo_si σ 4 z0) 16 ((mo_si σ 4 z0).1 1).toNatClampNeg x1).1 1).toNatClampNeg x2).1 1).toNatClampNeg x3) 19 ((mo_ai (mo_ai (mo_ai (mo_si σ 4 z0) 16 ((mo_si σ 4 z0).1 1).toNatClampNeg x1) 17 ((mo_ai (mo_si σ 4 z0) 16 ((mo_si σ 4 z0).1 1).toNatClampNeg x1).1 1).toNatClampNeg x2) 18 ((mo_ai (mo_ai (mo_si σ 4 z0) 16 ((mo_si σ 4 z0).1 1).toNatClampNeg x1) 17 ((mo_ai (mo_si σ 4 z0) 16 ((mo_si σ 4 z0).1 1).toNatClampNeg x1).1 1).toNatClampNeg x2).1 1).toNatClampNeg x3).1 1).toNatClampNeg x4).1 1) + 1)).1 2) + 1)).1 2, mo_si (mo_si (mo_ai (mo_ai (mo_ai (mo_ai (mo_si σ 4 z0) 16 ((mo_si σ 4 z0).1 1).toNatClampNeg x1) 17 ((mo_ai (mo_si σ 4 z0) 16 ((mo_si σ 4 z0).1 1).toNatClampNeg x1).1 1).toNatClampNeg x2) 18 ((mo_ai (mo_ai (mo_si σ 4 z0) 16 ((mo_si σ 4 z0).1 1).toNatClampNeg x1) 17 ((mo_ai (mo_si σ 4 z0) 16 ((mo_si σ 4 z0).1 1).toNatClampNeg x1).1 1).toNatClampNeg x2).1 1).toNatClampNeg x3) 19 ((mo_ai (mo_ai (mo_ai (mo_si σ 4 z0) 16 ((mo_si σ 4 z0).1 1).toNatClampNeg x1) 17 ((mo_ai (mo_si σ 4 z0) 16 ((mo_si σ 4 z0).1 1).toNatClampNeg x1).1 1).toNatClampNeg x2) 18 ((mo_ai (mo_ai (mo_si σ 4 z0) 16 ((mo_si σ 4 z0).1 1).toNatClampNeg x1) 17 ((mo_ai (mo_si σ 4 z0) 16 ((mo_si σ 4 z0).1 1).toNatClampNeg x1).1 1).toNatClampNeg x2).1 1).toNatClampNeg x3).1 1).toNatClampNeg x4) 1 (((mo_ai (mo_ai (mo_ai (mo_ai (mo_si σ 4 z0) 16 ((mo_si σ 4 z0).1 1).toNatClampNeg x1) 17 ((mo_ai (mo_si σ 4 z0) 16 ((mo_si σ 4 z0).1 1).toNatClampNeg x1).1 1).toNatClampNeg x2) 18 ((mo_ai (mo_ai (mo_si σ 4 z0) 16 ((mo_si σ 4 z0).1 1).toNatClampNeg x1) 17 ((mo_ai (mo_si σ 4 z0) 16 ((mo_si σ 4 z0).1 1).toNatClampNeg x1).1 1).toNatClampNeg x2).1 1).toNatClampNeg x3) 19 ((mo_ai (mo_ai (mo_ai (mo_si σ 4 z0) 16 ((mo_si σ 4 z0).1 1).toNatClampNeg x1) 17 ((mo_ai (mo_si σ 4 z0) 16 ((mo_si σ 4 z0).1 1).toNatClampNeg x1).1 1).toNatClampNeg x2) 18 ((mo_ai (mo_ai (mo_si σ 4 z0) 16 ((mo_si σ 4 z0).1 1).toNatClampNeg x1) 17 ((mo_ai (mo_si σ 4 z0) 16 ((mo_si σ 4 z0).1 1).toNatClampNeg x1).1 1).toNatClampNeg x2).1 1).toNatClampNeg x3).1 1).toNatClampNeg x4).1 1) + 1)) 2 (((mo_si (mo_ai (mo_ai (mo_ai (mo_ai (mo_si σ 4 z0) 16 ((mo_si σ 4 z0).1 1).toNatClampNeg x1) 17 ((mo_ai (mo_si σ 4 z0) 16 ((mo_si σ 4 z0).1 1).toNatClampNeg x1).1 1).toNatClampNeg x2) 18 ((mo_ai (mo_ai (mo_si σ 4 z0) 16 ((mo_si σ 4 z0).1 1).toNatClampNeg x1) 17 ((mo_ai (mo_si σ 4 z0) 16 ((mo_si σ 4 z0).1 1).toNatClampNeg x1).1 1).toNatClampNeg x2).1 1).toNatClampNeg x3) 19 ((mo_ai (mo_ai (mo_ai (mo_si σ 4 z0) 16 ((mo_si σ 4 z0).1 1).toNatClampNeg x1) 17 ((mo_ai (mo_si σ 4 z0) 16 ((mo_si σ 4 z0).1 1).toNatClampNeg x1).1 1).toNatClampNeg x2) 18 ((mo_ai (mo_ai (mo_si σ 4 z0) 16 ((mo_si σ 4 z0).1 1).toNatClampNeg x1) 17 ((mo_ai (mo_si σ 4 z0) 16 ((mo_si σ 4 z0).1 1).toNatClampNeg x1).1 1).toNatClampNeg x2).1 1).toNatClampNeg x3).1 1).toNatClampNeg x4) 1 (((mo_ai (mo_ai (mo_ai (mo_ai (mo_si σ 4 z0) 16 ((mo_si σ 4 z0).1 1).toNatClampNeg x1) 17 ((mo_ai (mo_si σ 4 z0) 16 ((mo_si σ 4 z0).1 1).toNatClampNeg x1).1 1).toNatClampNeg x2) 18 ((mo_ai (mo_ai (mo_si σ 4 z0) 16 ((mo_si σ 4 z0).1 1).toNatClampNeg x1) 17 ((mo_ai (mo_si σ 4 z0) 16 ((mo_si σ 4 z0).1 1).toNatClampNeg x1).1 1).toNatClampNeg x2).1 1).toNatClampNeg x3) 19 ((mo_ai (mo_ai (mo_ai (mo_si σ 4 z0) 16 ((mo_si σ 4 z0).1 1).toNatClampNeg x1) 17 ((mo_ai (mo_si σ 4 z0) 16 ((mo_si σ 4 z0).1 1).toNatClampNeg x1).1 1).toNatClampNeg x2) 18 ((mo_ai (mo_ai (mo_si σ 4 z0) 16 ((mo_si σ 4 z0).1 1).toNatClampNeg x1) 17 ((mo_ai (mo_si σ 4 z0) 16 ((mo_si σ 4 z0).1 1).toNatClampNeg x1).1 1).toNatClampNeg x2).1 1).toNatClampNeg x3).1 1).toNatClampNeg x4).1 1) + 1)).1 2) + 1))) else ((0, mo_si σ 4 z0))
def S_Mo_clause_j49 (σ : mSt) (x1 : Int32) (x2 : Int32) (x3 : Int32) (x4 : Int32) (z0 : Int32) : Prop := if ((mo_si σ 4 z0).1 4) = 0 then ((vp_in ((mo_si σ 4 z0).1 1) 40) ∧ ((vp_in ((mo_ai (mo_si σ 4 z0) 16 ((mo_si σ 4 z0).1 1).toNatClampNeg x1).1 1) 40) ∧ ((vp_in ((mo_ai (mo_ai (mo_si σ 4 z0) 16 ((mo_si σ 4 z0).1 1).toNatClampNeg x1) 17 ((mo_ai (mo_si σ 4 z0) 16 ((mo_si σ 4 z0).1 1).toNatClampNeg x1).1 1).toNatClampNeg x2).1 1) 40) ∧ ((vp_in ((mo_ai (mo_ai (mo_ai (mo_si σ 4 z0) 16 ((mo_si σ 4 z0).1 1).toNatClampNeg x1) 17 ((mo_ai (mo_si σ 4 z0) 16 ((mo_si σ 4 z0).1 1).toNatClampNeg x1).1 1).toNatClampNeg x2) 18 ((mo_ai (mo_ai (mo_si σ 4 z0) 16 ((mo_si σ 4 z0).1 1).toNatClampNeg x1) 17 ((mo_ai (mo_si σ 4 z0) 16 ((mo_si σ 4 z0).1 1).toNatClampNeg x1).1 1).toNatClampNeg x2).1 1).toNatClampNeg x3).1 1) 40) ∧ (True))))) else (True)
set_option maxRecDepth 100000 in
set_option maxHeartbeats 4000000 in
theorem w_Mo_clause_j49 {p : Program} {l : Launch} {e : Env} {s : State} {m : MethodId} {args : Array Value} {below : List Frame} {meth : Method} {c : Code} {D : va_G} {cs : Nat → ClassId} {B : Nat} {dE : Nat × Nat} {mo : Nat} {ad : Nat → Nat} {M0 : gMem} (C : CallFix p m c c_Mo_clause 5 s args gT R_Mo) (hE : gEnv D gcl (gtys cs) gz B dE s) (hr : meth.sig.returnType = (some .int)) (hlocks : meth.locks = false) (σ : mSt) (x1 : Int32) (x2 : Int32) (x3 : Int32) (x4 : Int32) (z0 : Int32) (Fv : Int32 × mSt) (hS : S_Mo_clause_j49 σ x1 x2 x3 x4 z0) (hF : F_Mo_clause_j49 σ x1 x2 x3 x4 z0 = Fv) : GW p l e ({ frames := 1, cells := 0, slots := 0, locals := 21 } : Room) s m args below meth c 5 (gA B) (mQ below D cs B mo ad M0 (fun r σ' => r = some (.int Fv.1) ∧ σ' = Fv.2) args s) (mo_P D B cs mo ad M0 σ) 0 0 49 [(0, .ref mo), (1, .int x1), (2, .int x2), (3, .int x3), (4, .int x4)] [.int z0, .ref mo] := by
  unfold F_Mo_clause_j49 at hF
  unfold S_Mo_clause_j49 at hS
  refine m_puti C hE 4 (by decide) (by decide) rfl rfl kf_Mo_142 d_Mo_clause_49 ?_
  refine g_aload_n C d_Mo_clause_52 rfl ?_
  refine m_geti C hE 4 (by decide) (by decide) kf_Mo_142 d_Mo_clause_53 ?_
  refine g_if_eq C 61 d_Mo_clause_56 (by decide) (fun hc14 => ?_) (fun hc14 => ?_)
  · rw [if_pos hc14] at hF hS
    refine g_aload_n C d_Mo_clause_61 rfl ?_
    refine m_geta C hE 16 (by decide) (by decide) (by decide) kf_Mo_43 d_Mo_clause_62 ?_
    refine g_aload_n C d_Mo_clause_65 rfl ?_
    refine m_geti C hE 1 (by decide) (by decide) kf_Mo_149 d_Mo_clause_66 ?_
    refine g_iload_n C d_Mo_clause_69 rfl ?_
    obtain ⟨hi15, hS⟩ := hS
    refine m_ast C hE 16 (by decide) (by decide) hi15 d_Mo_clause_70 ?_
    refine g_aload_n C d_Mo_clause_71 rfl ?_
    refine m_geta C hE 17 (by decide) (by decide) (by decide) kf_Mo_46 d_Mo_clause_72 ?_
    refine g_aload_n C d_Mo_clause_75 rfl ?_
    refine m_geti C hE 1 (by decide) (by decide) kf_Mo_149 d_Mo_clause_76 ?_
    refine g_iload_n C d_Mo_clause_79 rfl ?_
    obtain ⟨hi16, hS⟩ := hS
    refine m_ast C hE 17 (by decide) (by decide) hi16 d_Mo_clause_80 ?_
    refine g_aload_n C d_Mo_clause_81 rfl ?_
    refine m_geta C hE 18 (by decide) (by decide) (by decide) kf_Mo_49 d_Mo_clause_82 ?_
    refine g_aload_n C d_Mo_clause_85 rfl ?_
    refine m_geti C hE 1 (by decide) (by decide) kf_Mo_149 d_Mo_clause_86 ?_
    refine g_iload_n C d_Mo_clause_89 rfl ?_
    obtain ⟨hi17, hS⟩ := hS
    refine m_ast C hE 18 (by decide) (by decide) hi17 d_Mo_clause_90 ?_
    refine g_aload_n C d_Mo_clause_91 rfl ?_
    refine m_geta C hE 19 (by decide) (by decide) (by decide) kf_Mo_52 d_Mo_clause_92 ?_
    refine g_aload_n C d_Mo_clause_95 rfl ?_
    refine m_geti C hE 1 (by decide) (by decide) kf_Mo_149 d_Mo_clause_96 ?_
    refine g_iload C d_Mo_clause_99 rfl ?_
    obtain ⟨hi18, hS⟩ := hS
    refine m_ast C hE 19 (by decide) (by decide) hi18 d_Mo_clause_101 ?_
    refine g_aload_n C d_Mo_clause_102 rfl ?_
    refine g_dup C d_Mo_clause_103 rfl ?_
    refine m_geti C hE 1 (by decide) (by decide) kf_Mo_149 d_Mo_clause_104 ?_
    refine g_iconst (v := 1) C d_Mo_clause_107 (by decide) ?_
    refine g_iadd C d_Mo_clause_108 ?_
    refine m_puti C hE 1 (by decide) (by decide) rfl rfl kf_Mo_149 d_Mo_clause_109 ?_
    refine g_aload_n C d_Mo_clause_112 rfl ?_
    refine g_dup C d_Mo_clause_113 rfl ?_
    refine m_geti C hE 2 (by decide) (by decide) kf_Mo_152 d_Mo_clause_114 ?_
    refine g_iconst (v := 1) C d_Mo_clause_117 (by decide) ?_
    refine g_iadd C d_Mo_clause_118 ?_
    refine m_puti C hE 2 (by decide) (by decide) rfl rfl kf_Mo_152 d_Mo_clause_119 ?_
    refine g_aload_n C d_Mo_clause_122 rfl ?_
    refine m_geti C hE 2 (by decide) (by decide) kf_Mo_152 d_Mo_clause_123 ?_
    exact m_iret C hr hlocks d_Mo_clause_126 (by rw [← hF]; exact ⟨rfl, rfl⟩)
  · rw [if_neg hc14] at hF hS
    refine g_iconst (v := 0) C d_Mo_clause_59 (by decide) ?_
    exact m_iret C hr hlocks d_Mo_clause_60 (by rw [← hF]; exact ⟨rfl, rfl⟩)
def F_Mo_clause_j31 (σ : mSt) (x1 : Int32) (x2 : Int32) (x3 : Int32) (x4 : Int32) : Int32 × mSt := F_Mo_clause_j49 σ x1 x2 x3 x4 1
def S_Mo_clause_j31 (σ : mSt) (x1 : Int32) (x2 : Int32) (x3 : Int32) (x4 : Int32) : Prop := S_Mo_clause_j49 σ x1 x2 x3 x4 1
set_option maxRecDepth 100000 in
set_option maxHeartbeats 4000000 in
theorem w_Mo_clause_j31 {p : Program} {l : Launch} {e : Env} {s : State} {m : MethodId} {args : Array Value} {below : List Frame} {meth : Method} {c : Code} {D : va_G} {cs : Nat → ClassId} {B : Nat} {dE : Nat × Nat} {mo : Nat} {ad : Nat → Nat} {M0 : gMem} (C : CallFix p m c c_Mo_clause 5 s args gT R_Mo) (hE : gEnv D gcl (gtys cs) gz B dE s) (hr : meth.sig.returnType = (some .int)) (hlocks : meth.locks = false) (σ : mSt) (x1 : Int32) (x2 : Int32) (x3 : Int32) (x4 : Int32) (Fv : Int32 × mSt) (hS : S_Mo_clause_j31 σ x1 x2 x3 x4) (hF : F_Mo_clause_j31 σ x1 x2 x3 x4 = Fv) : GW p l e ({ frames := 1, cells := 0, slots := 0, locals := 21 } : Room) s m args below meth c 5 (gA B) (mQ below D cs B mo ad M0 (fun r σ' => r = some (.int Fv.1) ∧ σ' = Fv.2) args s) (mo_P D B cs mo ad M0 σ) 0 0 31 [(0, .ref mo), (1, .int x1), (2, .int x2), (3, .int x3), (4, .int x4)] [.ref mo] := by
  unfold F_Mo_clause_j31 at hF
  unfold S_Mo_clause_j31 at hS
  refine g_iconst (v := 1) C d_Mo_clause_31 (by decide) ?_
  refine g_goto C 49 d_Mo_clause_32 (by decide) ?_
  refine GW.subl [0, 1, 2, 3, 4] rfl ?_
  exact w_Mo_clause_j49 C hE hr hlocks σ x1 x2 x3 x4 1 Fv hS hF
def F_Mo_clause (σ : mSt) (x1 : Int32) (x2 : Int32) (x3 : Int32) (x4 : Int32) : Int32 × mSt := mbind (F_Mo_isEffect σ x1) (fun w1 => if w1.1 = 0 then (F_Mo_clause_j31 w1.2 x1 x2 x3 x4) else (mbind (F_Mo_isName w1.2 x2) (fun w4 => if w4.1 = 0 then (F_Mo_clause_j31 w4.2 x1 x2 x3 x4) else (mbind (F_Mo_isName w4.2 x3) (fun w7 => if w7.1 = 0 then (F_Mo_clause_j31 w7.2 x1 x2 x3 x4) else (mbind (F_Mo_isNode w7.2 x4) (fun w10 => if w10.1 = 0 then (F_Mo_clause_j31 w10.2 x1 x2 x3 x4) else (if (w10.2.1 1) = 40 then (F_Mo_clause_j49 w10.2 x1 x2 x3 x4 2) else (F_Mo_clause_j49 w10.2 x1 x2 x3 x4 0)))))))))
def S_Mo_clause (σ : mSt) (x1 : Int32) (x2 : Int32) (x3 : Int32) (x4 : Int32) : Prop := (S_Mo_isEffect σ x1) ∧ (mbind (F_Mo_isEffect σ x1) (fun w1 => if w1.1 = 0 then (S_Mo_clause_j31 w1.2 x1 x2 x3 x4) else ((S_Mo_isName w1.2 x2) ∧ (mbind (F_Mo_isName w1.2 x2) (fun w4 => if w4.1 = 0 then (S_Mo_clause_j31 w4.2 x1 x2 x3 x4) else ((S_Mo_isName w4.2 x3) ∧ (mbind (F_Mo_isName w4.2 x3) (fun w7 => if w7.1 = 0 then (S_Mo_clause_j31 w7.2 x1 x2 x3 x4) else ((S_Mo_isNode w7.2 x4) ∧ (mbind (F_Mo_isNode w7.2 x4) (fun w10 => if w10.1 = 0 then (S_Mo_clause_j31 w10.2 x1 x2 x3 x4) else (if (w10.2.1 1) = 40 then (S_Mo_clause_j49 w10.2 x1 x2 x3 x4 2) else (S_Mo_clause_j49 w10.2 x1 x2 x3 x4 0)))))))))))))
set_option maxRecDepth 100000 in
set_option maxHeartbeats 4000000 in
theorem mc_Mo_clause (l : Launch) (D : va_G) (cs : Nat → ClassId) (B : Nat) (dE : Nat × Nat) (mo : Nat) (ad : Nat → Nat) (σ : mSt) (x1 : Int32) (x2 : Int32) (x3 : Int32) (x4 : Int32) (hS : S_Mo_clause σ x1 x2 x3 x4) : mMet l y_Mo_clause (Cond.code y_Mo_clause c_Mo_clause 5 (some .int)) ({ frames := 1, cells := 0, slots := 0, locals := 21 } : Room) D cs B dE mo ad [.ref mo, .int x1, .int x2, .int x3, .int x4] σ (fun r σ' => r = some (.int (F_Mo_clause σ x1 x2 x3 x4).1) ∧ σ' = (F_Mo_clause σ x1 x2 x3 x4).2) := by
  refine mMet.ofW (by decide) rfl (Nat.le_of_ble_eq_true rfl) (lv0 := [(0, .ref mo), (1, .int x1), (2, .int x2), (3, .int x3), (4, .int x4)]) rfl ?_
  intro p e s m args below meth c M0 C hE hr hlocks
  generalize hF : F_Mo_clause σ x1 x2 x3 x4 = Fv
  unfold F_Mo_clause at hF
  unfold S_Mo_clause at hS
  refine g_aload_n C d_Mo_clause_0 rfl ?_
  refine g_iload_n C d_Mo_clause_1 rfl ?_
  obtain ⟨hs2, hS⟩ := hS
  refine m_callS (n := 1) (av := [.int x1]) (rest := [.ref mo]) C hE (mc_Mo_isEffect l D cs B dE mo ad _ _ hs2) km_Mo_202 ks_Mo_isEffect kd_Mo_isEffect ki_Mo ⟨rfl, by decide, by decide, by decide⟩ rfl ⟨rfl, rfl⟩ (by decide) (by decide) d_Mo_clause_2 (Nat.le_of_ble_eq_true rfl) _ rfl (fun v1 σ1 hv => ?_)
  obtain ⟨rfl, rfl⟩ := hv
  rw [mbind_eq] at hF hS
  generalize F_Mo_isEffect σ x1 = w1 at hF hS ⊢
  refine GW.eqs (st' := [.int w1.1, .ref mo]) rfl ?_
  refine g_if_eq C 31 d_Mo_clause_5 (by decide) (fun hc3 => ?_) (fun hc3 => ?_)
  · rw [if_pos hc3] at hF hS
    refine GW.subl [0, 1, 2, 3, 4] rfl ?_
    exact w_Mo_clause_j31 C hE hr hlocks w1.2 x1 x2 x3 x4 Fv hS hF
  · rw [if_neg hc3] at hF hS
    refine g_iload_n C d_Mo_clause_8 rfl ?_
    obtain ⟨hs5, hS⟩ := hS
    refine m_callS (n := 1) (av := [.int x2]) (rest := [.ref mo]) C hE (mc_Mo_isName l D cs B dE mo ad _ _ hs5) km_Mo_210 ks_Mo_isName kd_Mo_isName ki_Mo ⟨rfl, by decide, by decide, by decide⟩ rfl ⟨rfl, rfl⟩ (by decide) (by decide) d_Mo_clause_9 (Nat.le_of_ble_eq_true rfl) _ rfl (fun v1 σ1 hv => ?_)
    obtain ⟨rfl, rfl⟩ := hv
    rw [mbind_eq] at hF hS
    generalize F_Mo_isName w1.2 x2 = w4 at hF hS ⊢
    refine GW.eqs (st' := [.int w4.1, .ref mo]) rfl ?_
    refine g_if_eq C 31 d_Mo_clause_12 (by decide) (fun hc6 => ?_) (fun hc6 => ?_)
    · rw [if_pos hc6] at hF hS
      refine GW.subl [0, 1, 2, 3, 4] rfl ?_
      exact w_Mo_clause_j31 C hE hr hlocks w4.2 x1 x2 x3 x4 Fv hS hF
    · rw [if_neg hc6] at hF hS
      refine g_iload_n C d_Mo_clause_15 rfl ?_
      obtain ⟨hs8, hS⟩ := hS
      refine m_callS (n := 1) (av := [.int x3]) (rest := [.ref mo]) C hE (mc_Mo_isName l D cs B dE mo ad _ _ hs8) km_Mo_210 ks_Mo_isName kd_Mo_isName ki_Mo ⟨rfl, by decide, by decide, by decide⟩ rfl ⟨rfl, rfl⟩ (by decide) (by decide) d_Mo_clause_16 (Nat.le_of_ble_eq_true rfl) _ rfl (fun v1 σ1 hv => ?_)
      obtain ⟨rfl, rfl⟩ := hv
      rw [mbind_eq] at hF hS
      generalize F_Mo_isName w4.2 x3 = w7 at hF hS ⊢
      refine GW.eqs (st' := [.int w7.1, .ref mo]) rfl ?_
      refine g_if_eq C 31 d_Mo_clause_19 (by decide) (fun hc9 => ?_) (fun hc9 => ?_)
      · rw [if_pos hc9] at hF hS
        refine GW.subl [0, 1, 2, 3, 4] rfl ?_
        exact w_Mo_clause_j31 C hE hr hlocks w7.2 x1 x2 x3 x4 Fv hS hF
      · rw [if_neg hc9] at hF hS
        refine g_aload_n C d_Mo_clause_22 rfl ?_
        refine g_iload C d_Mo_clause_23 rfl ?_
        obtain ⟨hs11, hS⟩ := hS
        refine m_callV (n := 1) (av := [.int x4]) (rest := [.ref mo]) C hE (mc_Mo_isNode l D cs B dE mo ad _ _ hs11) km_Mo_217 kv_Mo_isNode kl_Mo_isNode kd_Mo_isNode ki_Mo ⟨rfl, by decide, by decide, by decide⟩ rfl ⟨rfl, rfl⟩ (by decide) (by decide) d_Mo_clause_25 (Nat.le_of_ble_eq_true rfl) _ rfl (fun v1 σ1 hv => ?_)
        obtain ⟨rfl, rfl⟩ := hv
        rw [mbind_eq] at hF hS
        generalize F_Mo_isNode w7.2 x4 = w10 at hF hS ⊢
        refine GW.eqs (st' := [.int w10.1, .ref mo]) rfl ?_
        refine g_if_ne C 35 d_Mo_clause_28 (by decide) (fun hc12 => ?_) (fun hc12 => ?_)
        · rw [if_neg hc12] at hF hS
          refine g_aload_n C d_Mo_clause_35 rfl ?_
          refine m_geti C hE 1 (by decide) (by decide) kf_Mo_149 d_Mo_clause_36 ?_
          refine g_bipush (v := 40) C d_Mo_clause_39 (by decide) ?_
          refine g_icmp_ne C 48 d_Mo_clause_41 (by decide) (fun hc13 => ?_) (fun hc13 => ?_)
          · rw [if_neg hc13] at hF hS
            refine g_iconst (v := 0) C d_Mo_clause_48 (by decide) ?_
            refine GW.subl [0, 1, 2, 3, 4] rfl ?_
            exact w_Mo_clause_j49 C hE hr hlocks w10.2 x1 x2 x3 x4 0 Fv hS hF
          · rw [if_pos hc13] at hF hS
            refine g_iconst (v := 2) C d_Mo_clause_44 (by decide) ?_
            refine g_goto C 49 d_Mo_clause_45 (by decide) ?_
            refine GW.subl [0, 1, 2, 3, 4] rfl ?_
            exact w_Mo_clause_j49 C hE hr hlocks w10.2 x1 x2 x3 x4 2 Fv hS hF
        · rw [if_pos hc12] at hF hS
          refine GW.subl [0, 1, 2, 3, 4] rfl ?_
          exact w_Mo_clause_j31 C hE hr hlocks w10.2 x1 x2 x3 x4 Fv hS hF
def F_Mo_handle_113 : Nat → mSt → Int32 → Int32 → mSt × Int32
  | 0, σ, _, _ => (σ, 0)
  | n + 1, σ, x5, x6 => if (σ.1 1) ≤ x6 then ((σ, x5)) else (mbind (F_Mo_counts σ x5 (σ.2.2.1 19 x6.toNatClampNeg)) (fun w24 => F_Mo_handle_113 n w24 x5 (x6 + 1)))
def S_Mo_handle_113 : Nat → mSt → Int32 → Int32 → Prop
  | 0, _, _, _ => False
  | n + 1, σ, x5, x6 => if (σ.1 1) ≤ x6 then (True) else ((vp_in x6 40) ∧ ((S_Mo_counts σ x5 (σ.2.2.1 19 x6.toNatClampNeg)) ∧ (mbind (F_Mo_counts σ x5 (σ.2.2.1 19 x6.toNatClampNeg)) (fun w24 => S_Mo_handle_113 n w24 x5 (x6 + 1)))))
set_option maxRecDepth 100000 in
set_option maxHeartbeats 4000000 in
theorem w_Mo_handle_113 {p : Program} {l : Launch} {e : Env} {s : State} {m : MethodId} {args : Array Value} {below : List Frame} {meth : Method} {c : Code} {D : va_G} {cs : Nat → ClassId} {B : Nat} {dE : Nat × Nat} {mo : Nat} {ad : Nat → Nat} {M0 : gMem} {Q : State → Prop} (C : CallFix p m c c_Mo_handle 7 s args gT R_Mo) (hE : gEnv D gcl (gtys cs) gz B dE s) (n : Nat) (σ : mSt) (x5 : Int32) (x6 : Int32) (Fv : mSt × Int32) (hS : S_Mo_handle_113 n σ x5 x6) (hF : F_Mo_handle_113 n σ x5 x6 = Fv) (hk : GW p l e ({ frames := 2, cells := 0, slots := 0, locals := 48 } : Room) s m args below meth c 7 (gA B) Q (mo_P D B cs mo ad M0 Fv.1) 0 0 141 [(0, .ref mo), (5, .int Fv.2)] []) : GW p l e ({ frames := 2, cells := 0, slots := 0, locals := 48 } : Room) s m args below meth c 7 (gA B) Q (mo_P D B cs mo ad M0 σ) 0 0 113 [(0, .ref mo), (5, .int x5), (6, .int x6)] [] := by
  induction n generalizing σ x5 x6 Fv with
  | zero => exact hS.elim
  | succ n ih =>
    unfold F_Mo_handle_113 at hF
    unfold S_Mo_handle_113 at hS
    refine g_iload C d_Mo_handle_113 rfl ?_
    refine g_aload_n C d_Mo_handle_115 rfl ?_
    refine m_geti C hE 1 (by decide) (by decide) kf_Mo_149 d_Mo_handle_116 ?_
    refine g_icmp_ge C 141 d_Mo_handle_119 (by decide) (fun hc22 => ?_) (fun hc22 => ?_)
    · rw [if_pos hc22] at hF hS
      refine GW.subl [0, 1] rfl ?_
      rw [← hF] at hk
      exact hk
    · rw [if_neg hc22] at hF hS
      refine g_aload_n C d_Mo_handle_122 rfl ?_
      refine g_iload C d_Mo_handle_123 rfl ?_
      refine g_aload_n C d_Mo_handle_125 rfl ?_
      refine m_geta C hE 19 (by decide) (by decide) (by decide) kf_Mo_52 d_Mo_handle_126 ?_
      refine g_iload C d_Mo_handle_129 rfl ?_
      obtain ⟨hi23, hS⟩ := hS
      refine m_ald C hE 19 (by decide) (by decide) hi23 d_Mo_handle_131 ?_
      obtain ⟨hs25, hS⟩ := hS
      refine m_callV (n := 2) (av := [.int x5, .int (σ.2.2.1 19 x6.toNatClampNeg)]) (rest := []) C hE (mc_Mo_counts l D cs B dE mo ad _ _ _ hs25) km_Mo_205 kv_Mo_counts kl_Mo_counts kd_Mo_counts ki_Mo ⟨rfl, by decide, by decide, by decide⟩ rfl ⟨rfl, rfl⟩ (by decide) (by decide) d_Mo_handle_132 (Nat.le_of_ble_eq_true rfl) _ rfl (fun v1 σ1 hv => ?_)
      obtain ⟨rfl, rfl⟩ := hv
      rw [mbind_eq] at hF hS
      generalize F_Mo_counts σ x5 (σ.2.2.1 19 x6.toNatClampNeg) = w24 at hF hS ⊢
      refine GW.eqs (st' := []) rfl ?_
      refine g_iinc (v := x6 + 1) (lv' := [(6, .int (x6 + 1)), (0, .ref mo), (5, .int x5)]) C d_Mo_handle_135 rfl rfl (by decide) rfl ?_
      refine g_goto C 113 d_Mo_handle_138 (by decide) ?_
      refine GW.subl [1, 2, 0] rfl ?_
      exact ih w24 x5 (x6 + 1) Fv hS hF hk
def F_Mo_handle_j43 (n : Nat) (σ : mSt) (x1 : Int32) (x2 : Int32) (x3 : Int32) (x4 : Int32) (z0 : Int32) (z1 : Int32) : Int32 × mSt := mbind (F_Mo_add σ z1 z0 x1 x4 (-1)) (fun w12 => if (w12.2.1 4) = 0 then (mbind (F_Mo_handle_113 n (mo_ai (mo_ai (mo_ai (mo_ai w12.2 6 w12.1.toNatClampNeg x3) 7 w12.1.toNatClampNeg x2) 14 w12.1.toNatClampNeg (((mo_ai (mo_ai w12.2 6 w12.1.toNatClampNeg x3) 7 w12.1.toNatClampNeg x2).1 1) - ((mo_ai (mo_ai w12.2 6 w12.1.toNatClampNeg x3) 7 w12.1.toNatClampNeg x2).1 2))) 15 w12.1.toNatClampNeg ((mo_ai (mo_ai (mo_ai w12.2 6 w12.1.toNatClampNeg x3) 7 w12.1.toNatClampNeg x2) 14 w12.1.toNatClampNeg (((mo_ai (mo_ai w12.2 6 w12.1.toNatClampNeg x3) 7 w12.1.toNatClampNeg x2).1 1) - ((mo_ai (mo_ai w12.2 6 w12.1.toNatClampNeg x3) 7 w12.1.toNatClampNeg x2).1 2))).1 2)) w12.1 ((mo_ai (mo_ai (mo_ai (mo_ai w12.2 6 w12.1.toNatClampNeg x3) 7 w12.1.toNatClampNeg x2) 14 w12.1.toNatClampNeg (((mo_ai (mo_ai w12.2 6 w12.1.toNatClampNeg x3) 7 w12.1.toNatClampNeg x2).1 1) - ((mo_ai (mo_ai w12.2 6 w12.1.toNatClampNeg x3) 7 w12.1.toNatClampNeg x2).1 2))) 15 w12.1.toNatClampNeg ((mo_ai (mo_ai (mo_ai w12.2 6 w12.1.toNatClampNeg x3) 7 w12.1.toNatClampNeg x2) 14 w12.1.toNatClampNeg (((mo_ai (mo_ai w12.2 6 w12.1.toNatClampNeg x3) 7 w12.1.toNatClampNeg x2).1 1) - ((mo_ai (mo_ai w12.2 6 w12.1.toNatClampNeg x3) 7 w12.1.toNatClampNeg x2).1 2))).1 2)).2.2.1 14 w12.1.toNatClampNeg)) (fun w20 => (w20.2, mo_si w20.1 2 0))) else ((0, w12.2)))
def S_Mo_handle_j43 (n : Nat) (σ : mSt) (x1 : Int32) (x2 : Int32) (x3 : Int32) (x4 : Int32) (z0 : Int32) (z1 : Int32) : Prop := (S_Mo_add σ z1 z0 x1 x4 (-1)) ∧ (mbind (F_Mo_add σ z1 z0 x1 x4 (-1)) (fun w12 => if (w12.2.1 4) = 0 then ((vp_in w12.1 200) ∧ ((vp_in w12.1 200) ∧ ((vp_in w12.1 200) ∧ ((vp_in w12.1 200) ∧ ((vp_in w12.1 200) ∧ ((S_Mo_handle_113 n (mo_ai (mo_ai (mo_ai (mo_ai w12.2 6 w12.1.toNatClampNeg x3) 7 w12.1.toNatClampNeg x2) 14 w12.1.toNatClampNeg (((mo_ai (mo_ai w12.2 6 w12.1.toNatClampNeg x3) 7 w12.1.toNatClampNeg x2).1 1) - ((mo_ai (mo_ai w12.2 6 w12.1.toNatClampNeg x3) 7 w12.1.toNatClampNeg x2).1 2))) 15 w12.1.toNatClampNeg ((mo_ai (mo_ai (mo_ai w12.2 6 w12.1.toNatClampNeg x3) 7 w12.1.toNatClampNeg x2) 14 w12.1.toNatClampNeg (((mo_ai (mo_ai w12.2 6 w12.1.toNatClampNeg x3) 7 w12.1.toNatClampNeg x2).1 1) - ((mo_ai (mo_ai w12.2 6 w12.1.toNatClampNeg x3) 7 w12.1.toNatClampNeg x2).1 2))).1 2)) w12.1 ((mo_ai (mo_ai (mo_ai (mo_ai w12.2 6 w12.1.toNatClampNeg x3) 7 w12.1.toNatClampNeg x2) 14 w12.1.toNatClampNeg (((mo_ai (mo_ai w12.2 6 w12.1.toNatClampNeg x3) 7 w12.1.toNatClampNeg x2).1 1) - ((mo_ai (mo_ai w12.2 6 w12.1.toNatClampNeg x3) 7 w12.1.toNatClampNeg x2).1 2))) 15 w12.1.toNatClampNeg ((mo_ai (mo_ai (mo_ai w12.2 6 w12.1.toNatClampNeg x3) 7 w12.1.toNatClampNeg x2) 14 w12.1.toNatClampNeg (((mo_ai (mo_ai w12.2 6 w12.1.toNatClampNeg x3) 7 w12.1.toNatClampNeg x2).1 1) - ((mo_ai (mo_ai w12.2 6 w12.1.toNatClampNeg x3) 7 w12.1.toNatClampNeg x2).1 2))).1 2)).2.2.1 14 w12.1.toNatClampNeg)) ∧ (mbind (F_Mo_handle_113 n (mo_ai (mo_ai (mo_ai (mo_ai w12.2 6 w12.1.toNatClampNeg x3) 7 w12.1.toNatClampNeg x2) 14 w12.1.toNatClampNeg (((mo_ai (mo_ai w12.2 6 w12.1.toNatClampNeg x3) 7 w12.1.toNatClampNeg x2).1 1) - ((mo_ai (mo_ai w12.2 6 w12.1.toNatClampNeg x3) 7 w12.1.toNatClampNeg x2).1 2))) 15 w12.1.toNatClampNeg ((mo_ai (mo_ai (mo_ai w12.2 6 w12.1.toNatClampNeg x3) 7 w12.1.toNatClampNeg x2) 14 w12.1.toNatClampNeg (((mo_ai (mo_ai w12.2 6 w12.1.toNatClampNeg x3) 7 w12.1.toNatClampNeg x2).1 1) - ((mo_ai (mo_ai w12.2 6 w12.1.toNatClampNeg x3) 7 w12.1.toNatClampNeg x2).1 2))).1 2)) w12.1 ((mo_ai (mo_ai (mo_ai (mo_ai w12.2 6 w12.1.toNatClampNeg x3) 7 w12.1.toNatClampNeg x2) 14 w12.1.toNatClampNeg (((mo_ai (mo_ai w12.2 6 w12.1.toNatClampNeg x3) 7 w12.1.toNatClampNeg x2).1 1) - ((mo_ai (mo_ai w12.2 6 w12.1.toNatClampNeg x3) 7 w12.1.toNatClampNeg x2).1 2))) 15 w12.1.toNatClampNeg ((mo_ai (mo_ai (mo_ai w12.2 6 w12.1.toNatClampNeg x3) 7 w12.1.toNatClampNeg x2) 14 w12.1.toNatClampNeg (((mo_ai (mo_ai w12.2 6 w12.1.toNatClampNeg x3) 7 w12.1.toNatClampNeg x2).1 1) - ((mo_ai (mo_ai w12.2 6 w12.1.toNatClampNeg x3) 7 w12.1.toNatClampNeg x2).1 2))).1 2)).2.2.1 14 w12.1.toNatClampNeg)) (fun w20 => True)))))))) else (True)))
set_option maxRecDepth 100000 in
set_option maxHeartbeats 4000000 in
theorem w_Mo_handle_j43 {p : Program} {l : Launch} {e : Env} {s : State} {m : MethodId} {args : Array Value} {below : List Frame} {meth : Method} {c : Code} {D : va_G} {cs : Nat → ClassId} {B : Nat} {dE : Nat × Nat} {mo : Nat} {ad : Nat → Nat} {M0 : gMem} (C : CallFix p m c c_Mo_handle 7 s args gT R_Mo) (hE : gEnv D gcl (gtys cs) gz B dE s) (hr : meth.sig.returnType = (some .int)) (hlocks : meth.locks = false) (n : Nat) (σ : mSt) (x1 : Int32) (x2 : Int32) (x3 : Int32) (x4 : Int32) (z0 : Int32) (z1 : Int32) (Fv : Int32 × mSt) (hS : S_Mo_handle_j43 n σ x1 x2 x3 x4 z0 z1) (hF : F_Mo_handle_j43 n σ x1 x2 x3 x4 z0 z1 = Fv) : GW p l e ({ frames := 2, cells := 0, slots := 0, locals := 48 } : Room) s m args below meth c 7 (gA B) (mQ below D cs B mo ad M0 (fun r σ' => r = some (.int Fv.1) ∧ σ' = Fv.2) args s) (mo_P D B cs mo ad M0 σ) 0 0 43 [(0, .ref mo), (1, .int x1), (2, .int x2), (3, .int x3), (4, .int x4)] [.int z0, .int z1, .ref mo] := by
  unfold F_Mo_handle_j43 at hF
  unfold S_Mo_handle_j43 at hS
  refine g_iload_n C d_Mo_handle_43 rfl ?_
  refine g_iload C d_Mo_handle_44 rfl ?_
  refine g_iconst (v := (-1)) C d_Mo_handle_46 (by decide) ?_
  obtain ⟨hs13, hS⟩ := hS
  refine m_callV (n := 5) (av := [.int z1, .int z0, .int x1, .int x4, .int (-1)]) (rest := []) C hE (mc_Mo_add l D cs B dE mo ad _ _ _ _ _ _ hs13) km_Mo_213 kv_Mo_add kl_Mo_add kd_Mo_add ki_Mo ⟨rfl, by decide, by decide, by decide⟩ rfl ⟨rfl, rfl⟩ (by decide) (by decide) d_Mo_handle_47 (Nat.le_of_ble_eq_true rfl) _ rfl (fun v1 σ1 hv => ?_)
  obtain ⟨rfl, rfl⟩ := hv
  rw [mbind_eq] at hF hS
  generalize F_Mo_add σ z1 z0 x1 x4 (-1) = w12 at hF hS ⊢
  refine GW.eqs (st' := [.int w12.1]) rfl ?_
  refine g_istore (lv' := [(5, .int w12.1), (0, .ref mo), (1, .int x1), (2, .int x2), (3, .int x3), (4, .int x4)]) C d_Mo_handle_50 (by decide) rfl ?_
  refine g_aload_n C d_Mo_handle_52 rfl ?_
  refine m_geti C hE 4 (by decide) (by decide) kf_Mo_142 d_Mo_handle_53 ?_
  refine g_if_eq C 61 d_Mo_handle_56 (by decide) (fun hc14 => ?_) (fun hc14 => ?_)
  · rw [if_pos hc14] at hF hS
    refine g_aload_n C d_Mo_handle_61 rfl ?_
    refine m_geta C hE 6 (by decide) (by decide) (by decide) kf_Mo_13 d_Mo_handle_62 ?_
    refine g_iload C d_Mo_handle_65 rfl ?_
    refine g_iload_n C d_Mo_handle_67 rfl ?_
    obtain ⟨hi15, hS⟩ := hS
    refine m_ast C hE 6 (by decide) (by decide) hi15 d_Mo_handle_68 ?_
    refine g_aload_n C d_Mo_handle_69 rfl ?_
    refine m_geta C hE 7 (by decide) (by decide) (by decide) kf_Mo_16 d_Mo_handle_70 ?_
    refine g_iload C d_Mo_handle_73 rfl ?_
    refine g_iload_n C d_Mo_handle_75 rfl ?_
    obtain ⟨hi16, hS⟩ := hS
    refine m_ast C hE 7 (by decide) (by decide) hi16 d_Mo_handle_76 ?_
    refine g_aload_n C d_Mo_handle_77 rfl ?_
    refine m_geta C hE 14 (by decide) (by decide) (by decide) kf_Mo_37 d_Mo_handle_78 ?_
    refine g_iload C d_Mo_handle_81 rfl ?_
    refine g_aload_n C d_Mo_handle_83 rfl ?_
    refine m_geti C hE 1 (by decide) (by decide) kf_Mo_149 d_Mo_handle_84 ?_
    refine g_aload_n C d_Mo_handle_87 rfl ?_
    refine m_geti C hE 2 (by decide) (by decide) kf_Mo_152 d_Mo_handle_88 ?_
    refine g_isub C d_Mo_handle_91 ?_
    obtain ⟨hi17, hS⟩ := hS
    refine m_ast C hE 14 (by decide) (by decide) hi17 d_Mo_handle_92 ?_
    refine g_aload_n C d_Mo_handle_93 rfl ?_
    refine m_geta C hE 15 (by decide) (by decide) (by decide) kf_Mo_40 d_Mo_handle_94 ?_
    refine g_iload C d_Mo_handle_97 rfl ?_
    refine g_aload_n C d_Mo_handle_99 rfl ?_
    refine m_geti C hE 2 (by decide) (by decide) kf_Mo_152 d_Mo_handle_100 ?_
    obtain ⟨hi18, hS⟩ := hS
    refine m_ast C hE 15 (by decide) (by decide) hi18 d_Mo_handle_103 ?_
    refine g_aload_n C d_Mo_handle_104 rfl ?_
    refine m_geta C hE 14 (by decide) (by decide) (by decide) kf_Mo_37 d_Mo_handle_105 ?_
    refine g_iload C d_Mo_handle_108 rfl ?_
    obtain ⟨hi19, hS⟩ := hS
    refine m_ald C hE 14 (by decide) (by decide) hi19 d_Mo_handle_110 ?_
    refine g_istore (lv' := [(6, .int ((mo_ai (mo_ai (mo_ai (mo_ai w12.2 6 w12.1.toNatClampNeg x3) 7 w12.1.toNatClampNeg x2) 14 w12.1.toNatClampNeg (((mo_ai (mo_ai w12.2 6 w12.1.toNatClampNeg x3) 7 w12.1.toNatClampNeg x2).1 1) - ((mo_ai (mo_ai w12.2 6 w12.1.toNatClampNeg x3) 7 w12.1.toNatClampNeg x2).1 2))) 15 w12.1.toNatClampNeg ((mo_ai (mo_ai (mo_ai w12.2 6 w12.1.toNatClampNeg x3) 7 w12.1.toNatClampNeg x2) 14 w12.1.toNatClampNeg (((mo_ai (mo_ai w12.2 6 w12.1.toNatClampNeg x3) 7 w12.1.toNatClampNeg x2).1 1) - ((mo_ai (mo_ai w12.2 6 w12.1.toNatClampNeg x3) 7 w12.1.toNatClampNeg x2).1 2))).1 2)).2.2.1 14 w12.1.toNatClampNeg)), (5, .int w12.1), (0, .ref mo), (1, .int x1), (2, .int x2), (3, .int x3), (4, .int x4)]) C d_Mo_handle_111 (by decide) rfl ?_
    obtain ⟨hs21, hS⟩ := hS
    rw [mbind_eq] at hF hS
    refine GW.subl [2, 1, 0] rfl ?_
    refine w_Mo_handle_113 C hE n (mo_ai (mo_ai (mo_ai (mo_ai w12.2 6 w12.1.toNatClampNeg x3) 7 w12.1.toNatClampNeg x2) 14 w12.1.toNatClampNeg (((mo_ai (mo_ai w12.2 6 w12.1.toNatClampNeg x3) 7 w12.1.toNatClampNeg x2).1 1) - ((mo_ai (mo_ai w12.2 6 w12.1.toNatClampNeg x3) 7 w12.1.toNatClampNeg x2).1 2))) 15 w12.1.toNatClampNeg ((mo_ai (mo_ai (mo_ai w12.2 6 w12.1.toNatClampNeg x3) 7 w12.1.toNatClampNeg x2) 14 w12.1.toNatClampNeg (((mo_ai (mo_ai w12.2 6 w12.1.toNatClampNeg x3) 7 w12.1.toNatClampNeg x2).1 1) - ((mo_ai (mo_ai w12.2 6 w12.1.toNatClampNeg x3) 7 w12.1.toNatClampNeg x2).1 2))).1 2)) w12.1 ((mo_ai (mo_ai (mo_ai (mo_ai w12.2 6 w12.1.toNatClampNeg x3) 7 w12.1.toNatClampNeg x2) 14 w12.1.toNatClampNeg (((mo_ai (mo_ai w12.2 6 w12.1.toNatClampNeg x3) 7 w12.1.toNatClampNeg x2).1 1) - ((mo_ai (mo_ai w12.2 6 w12.1.toNatClampNeg x3) 7 w12.1.toNatClampNeg x2).1 2))) 15 w12.1.toNatClampNeg ((mo_ai (mo_ai (mo_ai w12.2 6 w12.1.toNatClampNeg x3) 7 w12.1.toNatClampNeg x2) 14 w12.1.toNatClampNeg (((mo_ai (mo_ai w12.2 6 w12.1.toNatClampNeg x3) 7 w12.1.toNatClampNeg x2).1 1) - ((mo_ai (mo_ai w12.2 6 w12.1.toNatClampNeg x3) 7 w12.1.toNatClampNeg x2).1 2))).1 2)).2.2.1 14 w12.1.toNatClampNeg) _ hs21 rfl ?_
    generalize F_Mo_handle_113 n (mo_ai (mo_ai (mo_ai (mo_ai w12.2 6 w12.1.toNatClampNeg x3) 7 w12.1.toNatClampNeg x2) 14 w12.1.toNatClampNeg (((mo_ai (mo_ai w12.2 6 w12.1.toNatClampNeg x3) 7 w12.1.toNatClampNeg x2).1 1) - ((mo_ai (mo_ai w12.2 6 w12.1.toNatClampNeg x3) 7 w12.1.toNatClampNeg x2).1 2))) 15 w12.1.toNatClampNeg ((mo_ai (mo_ai (mo_ai w12.2 6 w12.1.toNatClampNeg x3) 7 w12.1.toNatClampNeg x2) 14 w12.1.toNatClampNeg (((mo_ai (mo_ai w12.2 6 w12.1.toNatClampNeg x3) 7 w12.1.toNatClampNeg x2).1 1) - ((mo_ai (mo_ai w12.2 6 w12.1.toNatClampNeg x3) 7 w12.1.toNatClampNeg x2).1 2))).1 2)) w12.1 ((mo_ai (mo_ai (mo_ai (mo_ai w12.2 6 w12.1.toNatClampNeg x3) 7 w12.1.toNatClampNeg x2) 14 w12.1.toNatClampNeg (((mo_ai (mo_ai w12.2 6 w12.1.toNatClampNeg x3) 7 w12.1.toNatClampNeg x2).1 1) - ((mo_ai (mo_ai w12.2 6 w12.1.toNatClampNeg x3) 7 w12.1.toNatClampNeg x2).1 2))) 15 w12.1.toNatClampNeg ((mo_ai (mo_ai (mo_ai w12.2 6 w12.1.toNatClampNeg x3) 7 w12.1.toNatClampNeg x2) 14 w12.1.toNatClampNeg (((mo_ai (mo_ai w12.2 6 w12.1.toNatClampNeg x3) 7 w12.1.toNatClampNeg x2).1 1) - ((mo_ai (mo_ai w12.2 6 w12.1.toNatClampNeg x3) 7 w12.1.toNatClampNeg x2).1 2))).1 2)).2.2.1 14 w12.1.toNatClampNeg) = w20 at hF hS ⊢
    refine g_aload_n C d_Mo_handle_141 rfl ?_
    refine g_iconst (v := 0) C d_Mo_handle_142 (by decide) ?_
    refine m_puti C hE 2 (by decide) (by decide) rfl rfl kf_Mo_152 d_Mo_handle_143 ?_
    refine g_iload C d_Mo_handle_146 rfl ?_
    exact m_iret C hr hlocks d_Mo_handle_148 (by rw [← hF]; exact ⟨rfl, rfl⟩)
  · rw [if_neg hc14] at hF hS
    refine g_iconst (v := 0) C d_Mo_handle_59 (by decide) ?_
    exact m_iret C hr hlocks d_Mo_handle_60 (by rw [← hF]; exact ⟨rfl, rfl⟩)
def F_Mo_handle_j42 (n : Nat) (σ : mSt) (x1 : Int32) (x2 : Int32) (x3 : Int32) (x4 : Int32) (z0 : Int32) : Int32 × mSt := F_Mo_handle_j43 n σ x1 x2 x3 x4 0 z0
def S_Mo_handle_j42 (n : Nat) (σ : mSt) (x1 : Int32) (x2 : Int32) (x3 : Int32) (x4 : Int32) (z0 : Int32) : Prop := S_Mo_handle_j43 n σ x1 x2 x3 x4 0 z0
set_option maxRecDepth 100000 in
set_option maxHeartbeats 4000000 in
theorem w_Mo_handle_j42 {p : Program} {l : Launch} {e : Env} {s : State} {m : MethodId} {args : Array Value} {below : List Frame} {meth : Method} {c : Code} {D : va_G} {cs : Nat → ClassId} {B : Nat} {dE : Nat × Nat} {mo : Nat} {ad : Nat → Nat} {M0 : gMem} (C : CallFix p m c c_Mo_handle 7 s args gT R_Mo) (hE : gEnv D gcl (gtys cs) gz B dE s) (hr : meth.sig.returnType = (some .int)) (hlocks : meth.locks = false) (n : Nat) (σ : mSt) (x1 : Int32) (x2 : Int32) (x3 : Int32) (x4 : Int32) (z0 : Int32) (Fv : Int32 × mSt) (hS : S_Mo_handle_j42 n σ x1 x2 x3 x4 z0) (hF : F_Mo_handle_j42 n σ x1 x2 x3 x4 z0 = Fv) : GW p l e ({ frames := 2, cells := 0, slots := 0, locals := 48 } : Room) s m args below meth c 7 (gA B) (mQ below D cs B mo ad M0 (fun r σ' => r = some (.int Fv.1) ∧ σ' = Fv.2) args s) (mo_P D B cs mo ad M0 σ) 0 0 42 [(0, .ref mo), (1, .int x1), (2, .int x2), (3, .int x3), (4, .int x4)] [.int z0, .ref mo] := by
  unfold F_Mo_handle_j42 at hF
  unfold S_Mo_handle_j42 at hS
  refine g_iconst (v := 0) C d_Mo_handle_42 (by decide) ?_
  refine GW.subl [0, 1, 2, 3, 4] rfl ?_
  exact w_Mo_handle_j43 C hE hr hlocks n σ x1 x2 x3 x4 0 z0 Fv hS hF
def F_Mo_handle (n : Nat) (σ : mSt) (x1 : Int32) (x2 : Int32) (x3 : Int32) (x4 : Int32) : Int32 × mSt := mbind (F_Mo_isName σ x3) (fun w1 => if w1.1 = 0 then (F_Mo_handle_j42 n w1.2 x1 x2 x3 x4 8) else (mbind (F_Mo_isNode w1.2 x1) (fun w4 => if w4.1 = 0 then (F_Mo_handle_j42 n w4.2 x1 x2 x3 x4 8) else (mbind (F_Mo_isNode w4.2 x4) (fun w7 => if w7.1 = 0 then (F_Mo_handle_j42 n w7.2 x1 x2 x3 x4 8) else (if x2 < 0 then (F_Mo_handle_j42 n w7.2 x1 x2 x3 x4 8) else (if 255 < x2 then (F_Mo_handle_j42 n w7.2 x1 x2 x3 x4 8) else (F_Mo_handle_j43 n w7.2 x1 x2 x3 x4 1 8))))))))
def S_Mo_handle (n : Nat) (σ : mSt) (x1 : Int32) (x2 : Int32) (x3 : Int32) (x4 : Int32) : Prop := (S_Mo_isName σ x3) ∧ (mbind (F_Mo_isName σ x3) (fun w1 => if w1.1 = 0 then (S_Mo_handle_j42 n w1.2 x1 x2 x3 x4 8) else ((S_Mo_isNode w1.2 x1) ∧ (mbind (F_Mo_isNode w1.2 x1) (fun w4 => if w4.1 = 0 then (S_Mo_handle_j42 n w4.2 x1 x2 x3 x4 8) else ((S_Mo_isNode w4.2 x4) ∧ (mbind (F_Mo_isNode w4.2 x4) (fun w7 => if w7.1 = 0 then (S_Mo_handle_j42 n w7.2 x1 x2 x3 x4 8) else (if x2 < 0 then (S_Mo_handle_j42 n w7.2 x1 x2 x3 x4 8) else (if 255 < x2 then (S_Mo_handle_j42 n w7.2 x1 x2 x3 x4 8) else (S_Mo_handle_j43 n w7.2 x1 x2 x3 x4 1 8)))))))))))
set_option maxRecDepth 100000 in
set_option maxHeartbeats 4000000 in
theorem mc_Mo_handle (l : Launch) (D : va_G) (cs : Nat → ClassId) (B : Nat) (dE : Nat × Nat) (mo : Nat) (ad : Nat → Nat) (n : Nat) (σ : mSt) (x1 : Int32) (x2 : Int32) (x3 : Int32) (x4 : Int32) (hS : S_Mo_handle n σ x1 x2 x3 x4) : mMet l y_Mo_handle (Cond.code y_Mo_handle c_Mo_handle 7 (some .int)) ({ frames := 2, cells := 0, slots := 0, locals := 48 } : Room) D cs B dE mo ad [.ref mo, .int x1, .int x2, .int x3, .int x4] σ (fun r σ' => r = some (.int (F_Mo_handle n σ x1 x2 x3 x4).1) ∧ σ' = (F_Mo_handle n σ x1 x2 x3 x4).2) := by
  refine mMet.ofW (by decide) rfl (Nat.le_of_ble_eq_true rfl) (lv0 := [(0, .ref mo), (1, .int x1), (2, .int x2), (3, .int x3), (4, .int x4)]) rfl ?_
  intro p e s m args below meth c M0 C hE hr hlocks
  generalize hF : F_Mo_handle n σ x1 x2 x3 x4 = Fv
  unfold F_Mo_handle at hF
  unfold S_Mo_handle at hS
  refine g_aload_n C d_Mo_handle_0 rfl ?_
  refine g_bipush (v := 8) C d_Mo_handle_1 (by decide) ?_
  refine g_iload_n C d_Mo_handle_3 rfl ?_
  obtain ⟨hs2, hS⟩ := hS
  refine m_callS (n := 1) (av := [.int x3]) (rest := [.int 8, .ref mo]) C hE (mc_Mo_isName l D cs B dE mo ad _ _ hs2) km_Mo_210 ks_Mo_isName kd_Mo_isName ki_Mo ⟨rfl, by decide, by decide, by decide⟩ rfl ⟨rfl, rfl⟩ (by decide) (by decide) d_Mo_handle_4 (Nat.le_of_ble_eq_true rfl) _ rfl (fun v1 σ1 hv => ?_)
  obtain ⟨rfl, rfl⟩ := hv
  rw [mbind_eq] at hF hS
  generalize F_Mo_isName σ x3 = w1 at hF hS ⊢
  refine GW.eqs (st' := [.int w1.1, .int 8, .ref mo]) rfl ?_
  refine g_if_eq C 42 d_Mo_handle_7 (by decide) (fun hc3 => ?_) (fun hc3 => ?_)
  · rw [if_pos hc3] at hF hS
    refine GW.subl [0, 1, 2, 3, 4] rfl ?_
    exact w_Mo_handle_j42 C hE hr hlocks n w1.2 x1 x2 x3 x4 8 Fv hS hF
  · rw [if_neg hc3] at hF hS
    refine g_aload_n C d_Mo_handle_10 rfl ?_
    refine g_iload_n C d_Mo_handle_11 rfl ?_
    obtain ⟨hs5, hS⟩ := hS
    refine m_callV (n := 1) (av := [.int x1]) (rest := [.int 8, .ref mo]) C hE (mc_Mo_isNode l D cs B dE mo ad _ _ hs5) km_Mo_217 kv_Mo_isNode kl_Mo_isNode kd_Mo_isNode ki_Mo ⟨rfl, by decide, by decide, by decide⟩ rfl ⟨rfl, rfl⟩ (by decide) (by decide) d_Mo_handle_12 (Nat.le_of_ble_eq_true rfl) _ rfl (fun v1 σ1 hv => ?_)
    obtain ⟨rfl, rfl⟩ := hv
    rw [mbind_eq] at hF hS
    generalize F_Mo_isNode w1.2 x1 = w4 at hF hS ⊢
    refine GW.eqs (st' := [.int w4.1, .int 8, .ref mo]) rfl ?_
    refine g_if_eq C 42 d_Mo_handle_15 (by decide) (fun hc6 => ?_) (fun hc6 => ?_)
    · rw [if_pos hc6] at hF hS
      refine GW.subl [0, 1, 2, 3, 4] rfl ?_
      exact w_Mo_handle_j42 C hE hr hlocks n w4.2 x1 x2 x3 x4 8 Fv hS hF
    · rw [if_neg hc6] at hF hS
      refine g_aload_n C d_Mo_handle_18 rfl ?_
      refine g_iload C d_Mo_handle_19 rfl ?_
      obtain ⟨hs8, hS⟩ := hS
      refine m_callV (n := 1) (av := [.int x4]) (rest := [.int 8, .ref mo]) C hE (mc_Mo_isNode l D cs B dE mo ad _ _ hs8) km_Mo_217 kv_Mo_isNode kl_Mo_isNode kd_Mo_isNode ki_Mo ⟨rfl, by decide, by decide, by decide⟩ rfl ⟨rfl, rfl⟩ (by decide) (by decide) d_Mo_handle_21 (Nat.le_of_ble_eq_true rfl) _ rfl (fun v1 σ1 hv => ?_)
      obtain ⟨rfl, rfl⟩ := hv
      rw [mbind_eq] at hF hS
      generalize F_Mo_isNode w4.2 x4 = w7 at hF hS ⊢
      refine GW.eqs (st' := [.int w7.1, .int 8, .ref mo]) rfl ?_
      refine g_if_eq C 42 d_Mo_handle_24 (by decide) (fun hc9 => ?_) (fun hc9 => ?_)
      · rw [if_pos hc9] at hF hS
        refine GW.subl [0, 1, 2, 3, 4] rfl ?_
        exact w_Mo_handle_j42 C hE hr hlocks n w7.2 x1 x2 x3 x4 8 Fv hS hF
      · rw [if_neg hc9] at hF hS
        refine g_iload_n C d_Mo_handle_27 rfl ?_
        refine g_if_lt C 42 d_Mo_handle_28 (by decide) (fun hc10 => ?_) (fun hc10 => ?_)
        · rw [if_pos hc10] at hF hS
          refine GW.subl [0, 1, 2, 3, 4] rfl ?_
          exact w_Mo_handle_j42 C hE hr hlocks n w7.2 x1 x2 x3 x4 8 Fv hS hF
        · rw [if_neg hc10] at hF hS
          refine g_iload_n C d_Mo_handle_31 rfl ?_
          refine g_sipush (v := 255) C d_Mo_handle_32 (by decide) ?_
          refine g_icmp_gt C 42 d_Mo_handle_35 (by decide) (fun hc11 => ?_) (fun hc11 => ?_)
          · rw [if_pos hc11] at hF hS
            refine GW.subl [0, 1, 2, 3, 4] rfl ?_
            exact w_Mo_handle_j42 C hE hr hlocks n w7.2 x1 x2 x3 x4 8 Fv hS hF
          · rw [if_neg hc11] at hF hS
            refine g_iconst (v := 1) C d_Mo_handle_38 (by decide) ?_
            refine g_goto C 43 d_Mo_handle_39 (by decide) ?_
            refine GW.subl [0, 1, 2, 3, 4] rfl ?_
            exact w_Mo_handle_j43 C hE hr hlocks n w7.2 x1 x2 x3 x4 1 8 Fv hS hF
def F_Mo_two_j33 (σ : mSt) (x1 : Int32) (x2 : Int32) (x3 : Int32) (z0 : Int32) (z1 : Int32) : Int32 × mSt := mbind (F_Mo_add σ z1 z0 x2 x3 (-1)) (fun w9 => if (w9.2.1 4) = 0 then ((w9.1, mo_ai w9.2 6 w9.1.toNatClampNeg x1)) else ((w9.1, w9.2)))
def S_Mo_two_j33 (σ : mSt) (x1 : Int32) (x2 : Int32) (x3 : Int32) (z0 : Int32) (z1 : Int32) : Prop := (S_Mo_add σ z1 z0 x2 x3 (-1)) ∧ (mbind (F_Mo_add σ z1 z0 x2 x3 (-1)) (fun w9 => if (w9.2.1 4) = 0 then ((vp_in w9.1 200) ∧ (True)) else (True)))
set_option maxRecDepth 100000 in
set_option maxHeartbeats 4000000 in
theorem w_Mo_two_j33 {p : Program} {l : Launch} {e : Env} {s : State} {m : MethodId} {args : Array Value} {below : List Frame} {meth : Method} {c : Code} {D : va_G} {cs : Nat → ClassId} {B : Nat} {dE : Nat × Nat} {mo : Nat} {ad : Nat → Nat} {M0 : gMem} (C : CallFix p m c c_Mo_two 5 s args gT R_Mo) (hE : gEnv D gcl (gtys cs) gz B dE s) (hr : meth.sig.returnType = (some .int)) (hlocks : meth.locks = false) (σ : mSt) (x1 : Int32) (x2 : Int32) (x3 : Int32) (z0 : Int32) (z1 : Int32) (Fv : Int32 × mSt) (hS : S_Mo_two_j33 σ x1 x2 x3 z0 z1) (hF : F_Mo_two_j33 σ x1 x2 x3 z0 z1 = Fv) : GW p l e ({ frames := 2, cells := 0, slots := 0, locals := 48 } : Room) s m args below meth c 5 (gA B) (mQ below D cs B mo ad M0 (fun r σ' => r = some (.int Fv.1) ∧ σ' = Fv.2) args s) (mo_P D B cs mo ad M0 σ) 0 0 33 [(0, .ref mo), (1, .int x1), (2, .int x2), (3, .int x3)] [.int z0, .int z1, .ref mo] := by
  unfold F_Mo_two_j33 at hF
  unfold S_Mo_two_j33 at hS
  refine g_iload_n C d_Mo_two_33 rfl ?_
  refine g_iload_n C d_Mo_two_34 rfl ?_
  refine g_iconst (v := (-1)) C d_Mo_two_35 (by decide) ?_
  obtain ⟨hs10, hS⟩ := hS
  refine m_callV (n := 5) (av := [.int z1, .int z0, .int x2, .int x3, .int (-1)]) (rest := []) C hE (mc_Mo_add l D cs B dE mo ad _ _ _ _ _ _ hs10) km_Mo_213 kv_Mo_add kl_Mo_add kd_Mo_add ki_Mo ⟨rfl, by decide, by decide, by decide⟩ rfl ⟨rfl, rfl⟩ (by decide) (by decide) d_Mo_two_36 (Nat.le_of_ble_eq_true rfl) _ rfl (fun v1 σ1 hv => ?_)
  obtain ⟨rfl, rfl⟩ := hv
  rw [mbind_eq] at hF hS
  generalize F_Mo_add σ z1 z0 x2 x3 (-1) = w9 at hF hS ⊢
  refine GW.eqs (st' := [.int w9.1]) rfl ?_
  refine g_istore (lv' := [(4, .int w9.1), (0, .ref mo), (1, .int x1), (2, .int x2), (3, .int x3)]) C d_Mo_two_39 (by decide) rfl ?_
  refine g_aload_n C d_Mo_two_41 rfl ?_
  refine m_geti C hE 4 (by decide) (by decide) kf_Mo_142 d_Mo_two_42 ?_
  refine g_if_ne C 56 d_Mo_two_45 (by decide) (fun hc11 => ?_) (fun hc11 => ?_)
  · rw [if_neg hc11] at hF hS
    refine g_iload C d_Mo_two_56 rfl ?_
    exact m_iret C hr hlocks d_Mo_two_58 (by rw [← hF]; exact ⟨rfl, rfl⟩)
  · rw [if_pos hc11] at hF hS
    refine g_aload_n C d_Mo_two_48 rfl ?_
    refine m_geta C hE 6 (by decide) (by decide) (by decide) kf_Mo_13 d_Mo_two_49 ?_
    refine g_iload C d_Mo_two_52 rfl ?_
    refine g_iload_n C d_Mo_two_54 rfl ?_
    obtain ⟨hi12, hS⟩ := hS
    refine m_ast C hE 6 (by decide) (by decide) hi12 d_Mo_two_55 ?_
    refine g_iload C d_Mo_two_56 rfl ?_
    exact m_iret C hr hlocks d_Mo_two_58 (by rw [← hF]; exact ⟨rfl, rfl⟩)
def F_Mo_two_j32 (σ : mSt) (x1 : Int32) (x2 : Int32) (x3 : Int32) (z0 : Int32) : Int32 × mSt := F_Mo_two_j33 σ x1 x2 x3 0 z0
def S_Mo_two_j32 (σ : mSt) (x1 : Int32) (x2 : Int32) (x3 : Int32) (z0 : Int32) : Prop := S_Mo_two_j33 σ x1 x2 x3 0 z0
set_option maxRecDepth 100000 in
set_option maxHeartbeats 4000000 in
theorem w_Mo_two_j32 {p : Program} {l : Launch} {e : Env} {s : State} {m : MethodId} {args : Array Value} {below : List Frame} {meth : Method} {c : Code} {D : va_G} {cs : Nat → ClassId} {B : Nat} {dE : Nat × Nat} {mo : Nat} {ad : Nat → Nat} {M0 : gMem} (C : CallFix p m c c_Mo_two 5 s args gT R_Mo) (hE : gEnv D gcl (gtys cs) gz B dE s) (hr : meth.sig.returnType = (some .int)) (hlocks : meth.locks = false) (σ : mSt) (x1 : Int32) (x2 : Int32) (x3 : Int32) (z0 : Int32) (Fv : Int32 × mSt) (hS : S_Mo_two_j32 σ x1 x2 x3 z0) (hF : F_Mo_two_j32 σ x1 x2 x3 z0 = Fv) : GW p l e ({ frames := 2, cells := 0, slots := 0, locals := 48 } : Room) s m args below meth c 5 (gA B) (mQ below D cs B mo ad M0 (fun r σ' => r = some (.int Fv.1) ∧ σ' = Fv.2) args s) (mo_P D B cs mo ad M0 σ) 0 0 32 [(0, .ref mo), (1, .int x1), (2, .int x2), (3, .int x3)] [.int z0, .ref mo] := by
  unfold F_Mo_two_j32 at hF
  unfold S_Mo_two_j32 at hS
  refine g_iconst (v := 0) C d_Mo_two_32 (by decide) ?_
  refine GW.subl [0, 1, 2, 3] rfl ?_
  exact w_Mo_two_j33 C hE hr hlocks σ x1 x2 x3 0 z0 Fv hS hF
def F_Mo_two (σ : mSt) (x1 : Int32) (x2 : Int32) (x3 : Int32) : Int32 × mSt := if x1 < 0 then (F_Mo_two_j32 σ x1 x2 x3 9) else (if 4 < x1 then (F_Mo_two_j32 σ x1 x2 x3 9) else (mbind (F_Mo_isNode σ x2) (fun w3 => if w3.1 = 0 then (F_Mo_two_j32 w3.2 x1 x2 x3 9) else (mbind (F_Mo_isNode w3.2 x3) (fun w6 => if w6.1 = 0 then (F_Mo_two_j32 w6.2 x1 x2 x3 9) else (F_Mo_two_j33 w6.2 x1 x2 x3 1 9))))))
def S_Mo_two (σ : mSt) (x1 : Int32) (x2 : Int32) (x3 : Int32) : Prop := if x1 < 0 then (S_Mo_two_j32 σ x1 x2 x3 9) else (if 4 < x1 then (S_Mo_two_j32 σ x1 x2 x3 9) else ((S_Mo_isNode σ x2) ∧ (mbind (F_Mo_isNode σ x2) (fun w3 => if w3.1 = 0 then (S_Mo_two_j32 w3.2 x1 x2 x3 9) else ((S_Mo_isNode w3.2 x3) ∧ (mbind (F_Mo_isNode w3.2 x3) (fun w6 => if w6.1 = 0 then (S_Mo_two_j32 w6.2 x1 x2 x3 9) else (S_Mo_two_j33 w6.2 x1 x2 x3 1 9))))))))
set_option maxRecDepth 100000 in
set_option maxHeartbeats 4000000 in
theorem mc_Mo_two (l : Launch) (D : va_G) (cs : Nat → ClassId) (B : Nat) (dE : Nat × Nat) (mo : Nat) (ad : Nat → Nat) (σ : mSt) (x1 : Int32) (x2 : Int32) (x3 : Int32) (hS : S_Mo_two σ x1 x2 x3) : mMet l y_Mo_two (Cond.code y_Mo_two c_Mo_two 5 (some .int)) ({ frames := 2, cells := 0, slots := 0, locals := 48 } : Room) D cs B dE mo ad [.ref mo, .int x1, .int x2, .int x3] σ (fun r σ' => r = some (.int (F_Mo_two σ x1 x2 x3).1) ∧ σ' = (F_Mo_two σ x1 x2 x3).2) := by
  refine mMet.ofW (by decide) rfl (Nat.le_of_ble_eq_true rfl) (lv0 := [(0, .ref mo), (1, .int x1), (2, .int x2), (3, .int x3)]) rfl ?_
  intro p e s m args below meth c M0 C hE hr hlocks
  generalize hF : F_Mo_two σ x1 x2 x3 = Fv
  unfold F_Mo_two at hF
  unfold S_Mo_two at hS
  refine g_aload_n C d_Mo_two_0 rfl ?_
  refine g_bipush (v := 9) C d_Mo_two_1 (by decide) ?_
  refine g_iload_n C d_Mo_two_3 rfl ?_
  refine g_if_lt C 32 d_Mo_two_4 (by decide) (fun hc1 => ?_) (fun hc1 => ?_)
  · rw [if_pos hc1] at hF hS
    refine GW.subl [0, 1, 2, 3] rfl ?_
    exact w_Mo_two_j32 C hE hr hlocks σ x1 x2 x3 9 Fv hS hF
  · rw [if_neg hc1] at hF hS
    refine g_iload_n C d_Mo_two_7 rfl ?_
    refine g_iconst (v := 4) C d_Mo_two_8 (by decide) ?_
    refine g_icmp_gt C 32 d_Mo_two_9 (by decide) (fun hc2 => ?_) (fun hc2 => ?_)
    · rw [if_pos hc2] at hF hS
      refine GW.subl [0, 1, 2, 3] rfl ?_
      exact w_Mo_two_j32 C hE hr hlocks σ x1 x2 x3 9 Fv hS hF
    · rw [if_neg hc2] at hF hS
      refine g_aload_n C d_Mo_two_12 rfl ?_
      refine g_iload_n C d_Mo_two_13 rfl ?_
      obtain ⟨hs4, hS⟩ := hS
      refine m_callV (n := 1) (av := [.int x2]) (rest := [.int 9, .ref mo]) C hE (mc_Mo_isNode l D cs B dE mo ad _ _ hs4) km_Mo_217 kv_Mo_isNode kl_Mo_isNode kd_Mo_isNode ki_Mo ⟨rfl, by decide, by decide, by decide⟩ rfl ⟨rfl, rfl⟩ (by decide) (by decide) d_Mo_two_14 (Nat.le_of_ble_eq_true rfl) _ rfl (fun v1 σ1 hv => ?_)
      obtain ⟨rfl, rfl⟩ := hv
      rw [mbind_eq] at hF hS
      generalize F_Mo_isNode σ x2 = w3 at hF hS ⊢
      refine GW.eqs (st' := [.int w3.1, .int 9, .ref mo]) rfl ?_
      refine g_if_eq C 32 d_Mo_two_17 (by decide) (fun hc5 => ?_) (fun hc5 => ?_)
      · rw [if_pos hc5] at hF hS
        refine GW.subl [0, 1, 2, 3] rfl ?_
        exact w_Mo_two_j32 C hE hr hlocks w3.2 x1 x2 x3 9 Fv hS hF
      · rw [if_neg hc5] at hF hS
        refine g_aload_n C d_Mo_two_20 rfl ?_
        refine g_iload_n C d_Mo_two_21 rfl ?_
        obtain ⟨hs7, hS⟩ := hS
        refine m_callV (n := 1) (av := [.int x3]) (rest := [.int 9, .ref mo]) C hE (mc_Mo_isNode l D cs B dE mo ad _ _ hs7) km_Mo_217 kv_Mo_isNode kl_Mo_isNode kd_Mo_isNode ki_Mo ⟨rfl, by decide, by decide, by decide⟩ rfl ⟨rfl, rfl⟩ (by decide) (by decide) d_Mo_two_22 (Nat.le_of_ble_eq_true rfl) _ rfl (fun v1 σ1 hv => ?_)
        obtain ⟨rfl, rfl⟩ := hv
        rw [mbind_eq] at hF hS
        generalize F_Mo_isNode w3.2 x3 = w6 at hF hS ⊢
        refine GW.eqs (st' := [.int w6.1, .int 9, .ref mo]) rfl ?_
        refine g_if_eq C 32 d_Mo_two_25 (by decide) (fun hc8 => ?_) (fun hc8 => ?_)
        · rw [if_pos hc8] at hF hS
          refine GW.subl [0, 1, 2, 3] rfl ?_
          exact w_Mo_two_j32 C hE hr hlocks w6.2 x1 x2 x3 9 Fv hS hF
        · rw [if_neg hc8] at hF hS
          refine g_iconst (v := 1) C d_Mo_two_28 (by decide) ?_
          refine g_goto C 33 d_Mo_two_29 (by decide) ?_
          refine GW.subl [0, 1, 2, 3] rfl ?_
          exact w_Mo_two_j33 C hE hr hlocks w6.2 x1 x2 x3 1 9 Fv hS hF
def F_Mo_call_j23 (σ : mSt) (x1 : Int32) (x2 : Int32) (z0 : Int32) : Int32 × mSt := mbind (F_Mo_add σ z0 0 x1 x2 (-1)) (fun w9 => (w9.1, w9.2))
def S_Mo_call_j23 (σ : mSt) (x1 : Int32) (x2 : Int32) (z0 : Int32) : Prop := (S_Mo_add σ z0 0 x1 x2 (-1)) ∧ (mbind (F_Mo_add σ z0 0 x1 x2 (-1)) (fun w9 => True))
set_option maxRecDepth 100000 in
set_option maxHeartbeats 4000000 in
theorem w_Mo_call_j23 {p : Program} {l : Launch} {e : Env} {s : State} {m : MethodId} {args : Array Value} {below : List Frame} {meth : Method} {c : Code} {D : va_G} {cs : Nat → ClassId} {B : Nat} {dE : Nat × Nat} {mo : Nat} {ad : Nat → Nat} {M0 : gMem} (C : CallFix p m c c_Mo_call 3 s args gT R_Mo) (hE : gEnv D gcl (gtys cs) gz B dE s) (hr : meth.sig.returnType = (some .int)) (hlocks : meth.locks = false) (σ : mSt) (x1 : Int32) (x2 : Int32) (z0 : Int32) (Fv : Int32 × mSt) (hS : S_Mo_call_j23 σ x1 x2 z0) (hF : F_Mo_call_j23 σ x1 x2 z0 = Fv) : GW p l e ({ frames := 2, cells := 0, slots := 0, locals := 48 } : Room) s m args below meth c 3 (gA B) (mQ below D cs B mo ad M0 (fun r σ' => r = some (.int Fv.1) ∧ σ' = Fv.2) args s) (mo_P D B cs mo ad M0 σ) 0 0 23 [(0, .ref mo), (1, .int x1), (2, .int x2)] [.int z0, .ref mo] := by
  unfold F_Mo_call_j23 at hF
  unfold S_Mo_call_j23 at hS
  refine g_iconst (v := 0) C d_Mo_call_23 (by decide) ?_
  refine g_iload_n C d_Mo_call_24 rfl ?_
  refine g_iload_n C d_Mo_call_25 rfl ?_
  refine g_iconst (v := (-1)) C d_Mo_call_26 (by decide) ?_
  obtain ⟨hs10, hS⟩ := hS
  refine m_callV (n := 5) (av := [.int z0, .int 0, .int x1, .int x2, .int (-1)]) (rest := []) C hE (mc_Mo_add l D cs B dE mo ad _ _ _ _ _ _ hs10) km_Mo_213 kv_Mo_add kl_Mo_add kd_Mo_add ki_Mo ⟨rfl, by decide, by decide, by decide⟩ rfl ⟨rfl, rfl⟩ (by decide) (by decide) d_Mo_call_27 (Nat.le_of_ble_eq_true rfl) _ rfl (fun v1 σ1 hv => ?_)
  obtain ⟨rfl, rfl⟩ := hv
  rw [mbind_eq] at hF hS
  generalize F_Mo_add σ z0 0 x1 x2 (-1) = w9 at hF hS ⊢
  refine GW.eqs (st' := [.int w9.1]) rfl ?_
  exact m_iret C hr hlocks d_Mo_call_30 (by rw [← hF]; exact ⟨rfl, rfl⟩)
def F_Mo_call (σ : mSt) (x1 : Int32) (x2 : Int32) : Int32 × mSt := mbind (F_Mo_isNode σ x1) (fun w1 => if w1.1 = 0 then (F_Mo_call_j23 w1.2 x1 x2 10) else (mbind (F_Mo_isNode w1.2 x2) (fun w4 => if w4.1 = 0 then (F_Mo_call_j23 w4.2 x1 x2 10) else (mbind (F_Mo_add w4.2 10 1 x1 x2 (-1)) (fun w7 => (w7.1, w7.2))))))
def S_Mo_call (σ : mSt) (x1 : Int32) (x2 : Int32) : Prop := (S_Mo_isNode σ x1) ∧ (mbind (F_Mo_isNode σ x1) (fun w1 => if w1.1 = 0 then (S_Mo_call_j23 w1.2 x1 x2 10) else ((S_Mo_isNode w1.2 x2) ∧ (mbind (F_Mo_isNode w1.2 x2) (fun w4 => if w4.1 = 0 then (S_Mo_call_j23 w4.2 x1 x2 10) else ((S_Mo_add w4.2 10 1 x1 x2 (-1)) ∧ (mbind (F_Mo_add w4.2 10 1 x1 x2 (-1)) (fun w7 => True))))))))
set_option maxRecDepth 100000 in
set_option maxHeartbeats 4000000 in
theorem mc_Mo_call (l : Launch) (D : va_G) (cs : Nat → ClassId) (B : Nat) (dE : Nat × Nat) (mo : Nat) (ad : Nat → Nat) (σ : mSt) (x1 : Int32) (x2 : Int32) (hS : S_Mo_call σ x1 x2) : mMet l y_Mo_call (Cond.code y_Mo_call c_Mo_call 3 (some .int)) ({ frames := 2, cells := 0, slots := 0, locals := 48 } : Room) D cs B dE mo ad [.ref mo, .int x1, .int x2] σ (fun r σ' => r = some (.int (F_Mo_call σ x1 x2).1) ∧ σ' = (F_Mo_call σ x1 x2).2) := by
  refine mMet.ofW (by decide) rfl (Nat.le_of_ble_eq_true rfl) (lv0 := [(0, .ref mo), (1, .int x1), (2, .int x2)]) rfl ?_
  intro p e s m args below meth c M0 C hE hr hlocks
  generalize hF : F_Mo_call σ x1 x2 = Fv
  unfold F_Mo_call at hF
  unfold S_Mo_call at hS
  refine g_aload_n C d_Mo_call_0 rfl ?_
  refine g_bipush (v := 10) C d_Mo_call_1 (by decide) ?_
  refine g_aload_n C d_Mo_call_3 rfl ?_
  refine g_iload_n C d_Mo_call_4 rfl ?_
  obtain ⟨hs2, hS⟩ := hS
  refine m_callV (n := 1) (av := [.int x1]) (rest := [.int 10, .ref mo]) C hE (mc_Mo_isNode l D cs B dE mo ad _ _ hs2) km_Mo_217 kv_Mo_isNode kl_Mo_isNode kd_Mo_isNode ki_Mo ⟨rfl, by decide, by decide, by decide⟩ rfl ⟨rfl, rfl⟩ (by decide) (by decide) d_Mo_call_5 (Nat.le_of_ble_eq_true rfl) _ rfl (fun v1 σ1 hv => ?_)
  obtain ⟨rfl, rfl⟩ := hv
  rw [mbind_eq] at hF hS
  generalize F_Mo_isNode σ x1 = w1 at hF hS ⊢
  refine GW.eqs (st' := [.int w1.1, .int 10, .ref mo]) rfl ?_
  refine g_if_eq C 23 d_Mo_call_8 (by decide) (fun hc3 => ?_) (fun hc3 => ?_)
  · rw [if_pos hc3] at hF hS
    refine GW.subl [0, 1, 2] rfl ?_
    exact w_Mo_call_j23 C hE hr hlocks w1.2 x1 x2 10 Fv hS hF
  · rw [if_neg hc3] at hF hS
    refine g_aload_n C d_Mo_call_11 rfl ?_
    refine g_iload_n C d_Mo_call_12 rfl ?_
    obtain ⟨hs5, hS⟩ := hS
    refine m_callV (n := 1) (av := [.int x2]) (rest := [.int 10, .ref mo]) C hE (mc_Mo_isNode l D cs B dE mo ad _ _ hs5) km_Mo_217 kv_Mo_isNode kl_Mo_isNode kd_Mo_isNode ki_Mo ⟨rfl, by decide, by decide, by decide⟩ rfl ⟨rfl, rfl⟩ (by decide) (by decide) d_Mo_call_13 (Nat.le_of_ble_eq_true rfl) _ rfl (fun v1 σ1 hv => ?_)
    obtain ⟨rfl, rfl⟩ := hv
    rw [mbind_eq] at hF hS
    generalize F_Mo_isNode w1.2 x2 = w4 at hF hS ⊢
    refine GW.eqs (st' := [.int w4.1, .int 10, .ref mo]) rfl ?_
    refine g_if_eq C 23 d_Mo_call_16 (by decide) (fun hc6 => ?_) (fun hc6 => ?_)
    · rw [if_pos hc6] at hF hS
      refine GW.subl [0, 1, 2] rfl ?_
      exact w_Mo_call_j23 C hE hr hlocks w4.2 x1 x2 10 Fv hS hF
    · rw [if_neg hc6] at hF hS
      refine g_iconst (v := 1) C d_Mo_call_19 (by decide) ?_
      refine g_goto C 24 d_Mo_call_20 (by decide) ?_
      refine g_iload_n C d_Mo_call_24 rfl ?_
      refine g_iload_n C d_Mo_call_25 rfl ?_
      refine g_iconst (v := (-1)) C d_Mo_call_26 (by decide) ?_
      obtain ⟨hs8, hS⟩ := hS
      refine m_callV (n := 5) (av := [.int 10, .int 1, .int x1, .int x2, .int (-1)]) (rest := []) C hE (mc_Mo_add l D cs B dE mo ad _ _ _ _ _ _ hs8) km_Mo_213 kv_Mo_add kl_Mo_add kd_Mo_add ki_Mo ⟨rfl, by decide, by decide, by decide⟩ rfl ⟨rfl, rfl⟩ (by decide) (by decide) d_Mo_call_27 (Nat.le_of_ble_eq_true rfl) _ rfl (fun v1 σ1 hv => ?_)
      obtain ⟨rfl, rfl⟩ := hv
      rw [mbind_eq] at hF hS
      generalize F_Mo_add w4.2 10 1 x1 x2 (-1) = w7 at hF hS ⊢
      refine GW.eqs (st' := [.int w7.1]) rfl ?_
      exact m_iret C hr hlocks d_Mo_call_30 (by rw [← hF]; exact ⟨rfl, rfl⟩)
def F_Mo_perform_j23 (σ : mSt) (x1 : Int32) (x2 : Int32) (z0 : Int32) (z1 : Int32) : Int32 × mSt := mbind (F_Mo_add σ z1 z0 x2 (-1) (-1)) (fun w7 => if (w7.2.1 4) = 0 then ((w7.1, mo_ai w7.2 6 w7.1.toNatClampNeg x1)) else ((w7.1, w7.2)))
def S_Mo_perform_j23 (σ : mSt) (x1 : Int32) (x2 : Int32) (z0 : Int32) (z1 : Int32) : Prop := (S_Mo_add σ z1 z0 x2 (-1) (-1)) ∧ (mbind (F_Mo_add σ z1 z0 x2 (-1) (-1)) (fun w7 => if (w7.2.1 4) = 0 then ((vp_in w7.1 200) ∧ (True)) else (True)))
set_option maxRecDepth 100000 in
set_option maxHeartbeats 4000000 in
theorem w_Mo_perform_j23 {p : Program} {l : Launch} {e : Env} {s : State} {m : MethodId} {args : Array Value} {below : List Frame} {meth : Method} {c : Code} {D : va_G} {cs : Nat → ClassId} {B : Nat} {dE : Nat × Nat} {mo : Nat} {ad : Nat → Nat} {M0 : gMem} (C : CallFix p m c c_Mo_perform 4 s args gT R_Mo) (hE : gEnv D gcl (gtys cs) gz B dE s) (hr : meth.sig.returnType = (some .int)) (hlocks : meth.locks = false) (σ : mSt) (x1 : Int32) (x2 : Int32) (z0 : Int32) (z1 : Int32) (Fv : Int32 × mSt) (hS : S_Mo_perform_j23 σ x1 x2 z0 z1) (hF : F_Mo_perform_j23 σ x1 x2 z0 z1 = Fv) : GW p l e ({ frames := 2, cells := 0, slots := 0, locals := 48 } : Room) s m args below meth c 4 (gA B) (mQ below D cs B mo ad M0 (fun r σ' => r = some (.int Fv.1) ∧ σ' = Fv.2) args s) (mo_P D B cs mo ad M0 σ) 0 0 23 [(0, .ref mo), (1, .int x1), (2, .int x2)] [.int z0, .int z1, .ref mo] := by
  unfold F_Mo_perform_j23 at hF
  unfold S_Mo_perform_j23 at hS
  refine g_iload_n C d_Mo_perform_23 rfl ?_
  refine g_iconst (v := (-1)) C d_Mo_perform_24 (by decide) ?_
  refine g_iconst (v := (-1)) C d_Mo_perform_25 (by decide) ?_
  obtain ⟨hs8, hS⟩ := hS
  refine m_callV (n := 5) (av := [.int z1, .int z0, .int x2, .int (-1), .int (-1)]) (rest := []) C hE (mc_Mo_add l D cs B dE mo ad _ _ _ _ _ _ hs8) km_Mo_213 kv_Mo_add kl_Mo_add kd_Mo_add ki_Mo ⟨rfl, by decide, by decide, by decide⟩ rfl ⟨rfl, rfl⟩ (by decide) (by decide) d_Mo_perform_26 (Nat.le_of_ble_eq_true rfl) _ rfl (fun v1 σ1 hv => ?_)
  obtain ⟨rfl, rfl⟩ := hv
  rw [mbind_eq] at hF hS
  generalize F_Mo_add σ z1 z0 x2 (-1) (-1) = w7 at hF hS ⊢
  refine GW.eqs (st' := [.int w7.1]) rfl ?_
  refine g_istore_n (lv' := [(3, .int w7.1), (0, .ref mo), (1, .int x1), (2, .int x2)]) C d_Mo_perform_29 (by decide) rfl ?_
  refine g_aload_n C d_Mo_perform_30 rfl ?_
  refine m_geti C hE 4 (by decide) (by decide) kf_Mo_142 d_Mo_perform_31 ?_
  refine g_if_ne C 44 d_Mo_perform_34 (by decide) (fun hc9 => ?_) (fun hc9 => ?_)
  · rw [if_neg hc9] at hF hS
    refine g_iload_n C d_Mo_perform_44 rfl ?_
    exact m_iret C hr hlocks d_Mo_perform_45 (by rw [← hF]; exact ⟨rfl, rfl⟩)
  · rw [if_pos hc9] at hF hS
    refine g_aload_n C d_Mo_perform_37 rfl ?_
    refine m_geta C hE 6 (by decide) (by decide) (by decide) kf_Mo_13 d_Mo_perform_38 ?_
    refine g_iload_n C d_Mo_perform_41 rfl ?_
    refine g_iload_n C d_Mo_perform_42 rfl ?_
    obtain ⟨hi10, hS⟩ := hS
    refine m_ast C hE 6 (by decide) (by decide) hi10 d_Mo_perform_43 ?_
    refine g_iload_n C d_Mo_perform_44 rfl ?_
    exact m_iret C hr hlocks d_Mo_perform_45 (by rw [← hF]; exact ⟨rfl, rfl⟩)
def F_Mo_perform_j22 (σ : mSt) (x1 : Int32) (x2 : Int32) (z0 : Int32) : Int32 × mSt := F_Mo_perform_j23 σ x1 x2 0 z0
def S_Mo_perform_j22 (σ : mSt) (x1 : Int32) (x2 : Int32) (z0 : Int32) : Prop := S_Mo_perform_j23 σ x1 x2 0 z0
set_option maxRecDepth 100000 in
set_option maxHeartbeats 4000000 in
theorem w_Mo_perform_j22 {p : Program} {l : Launch} {e : Env} {s : State} {m : MethodId} {args : Array Value} {below : List Frame} {meth : Method} {c : Code} {D : va_G} {cs : Nat → ClassId} {B : Nat} {dE : Nat × Nat} {mo : Nat} {ad : Nat → Nat} {M0 : gMem} (C : CallFix p m c c_Mo_perform 4 s args gT R_Mo) (hE : gEnv D gcl (gtys cs) gz B dE s) (hr : meth.sig.returnType = (some .int)) (hlocks : meth.locks = false) (σ : mSt) (x1 : Int32) (x2 : Int32) (z0 : Int32) (Fv : Int32 × mSt) (hS : S_Mo_perform_j22 σ x1 x2 z0) (hF : F_Mo_perform_j22 σ x1 x2 z0 = Fv) : GW p l e ({ frames := 2, cells := 0, slots := 0, locals := 48 } : Room) s m args below meth c 4 (gA B) (mQ below D cs B mo ad M0 (fun r σ' => r = some (.int Fv.1) ∧ σ' = Fv.2) args s) (mo_P D B cs mo ad M0 σ) 0 0 22 [(0, .ref mo), (1, .int x1), (2, .int x2)] [.int z0, .ref mo] := by
  unfold F_Mo_perform_j22 at hF
  unfold S_Mo_perform_j22 at hS
  refine g_iconst (v := 0) C d_Mo_perform_22 (by decide) ?_
  refine GW.subl [0, 1, 2] rfl ?_
  exact w_Mo_perform_j23 C hE hr hlocks σ x1 x2 0 z0 Fv hS hF
def F_Mo_perform (σ : mSt) (x1 : Int32) (x2 : Int32) : Int32 × mSt := mbind (F_Mo_isEffect σ x1) (fun w1 => if w1.1 = 0 then (F_Mo_perform_j22 w1.2 x1 x2 11) else (mbind (F_Mo_isNode w1.2 x2) (fun w4 => if w4.1 = 0 then (F_Mo_perform_j22 w4.2 x1 x2 11) else (F_Mo_perform_j23 w4.2 x1 x2 1 11))))
def S_Mo_perform (σ : mSt) (x1 : Int32) (x2 : Int32) : Prop := (S_Mo_isEffect σ x1) ∧ (mbind (F_Mo_isEffect σ x1) (fun w1 => if w1.1 = 0 then (S_Mo_perform_j22 w1.2 x1 x2 11) else ((S_Mo_isNode w1.2 x2) ∧ (mbind (F_Mo_isNode w1.2 x2) (fun w4 => if w4.1 = 0 then (S_Mo_perform_j22 w4.2 x1 x2 11) else (S_Mo_perform_j23 w4.2 x1 x2 1 11))))))
set_option maxRecDepth 100000 in
set_option maxHeartbeats 4000000 in
theorem mc_Mo_perform (l : Launch) (D : va_G) (cs : Nat → ClassId) (B : Nat) (dE : Nat × Nat) (mo : Nat) (ad : Nat → Nat) (σ : mSt) (x1 : Int32) (x2 : Int32) (hS : S_Mo_perform σ x1 x2) : mMet l y_Mo_perform (Cond.code y_Mo_perform c_Mo_perform 4 (some .int)) ({ frames := 2, cells := 0, slots := 0, locals := 48 } : Room) D cs B dE mo ad [.ref mo, .int x1, .int x2] σ (fun r σ' => r = some (.int (F_Mo_perform σ x1 x2).1) ∧ σ' = (F_Mo_perform σ x1 x2).2) := by
  refine mMet.ofW (by decide) rfl (Nat.le_of_ble_eq_true rfl) (lv0 := [(0, .ref mo), (1, .int x1), (2, .int x2)]) rfl ?_
  intro p e s m args below meth c M0 C hE hr hlocks
  generalize hF : F_Mo_perform σ x1 x2 = Fv
  unfold F_Mo_perform at hF
  unfold S_Mo_perform at hS
  refine g_aload_n C d_Mo_perform_0 rfl ?_
  refine g_bipush (v := 11) C d_Mo_perform_1 (by decide) ?_
  refine g_iload_n C d_Mo_perform_3 rfl ?_
  obtain ⟨hs2, hS⟩ := hS
  refine m_callS (n := 1) (av := [.int x1]) (rest := [.int 11, .ref mo]) C hE (mc_Mo_isEffect l D cs B dE mo ad _ _ hs2) km_Mo_202 ks_Mo_isEffect kd_Mo_isEffect ki_Mo ⟨rfl, by decide, by decide, by decide⟩ rfl ⟨rfl, rfl⟩ (by decide) (by decide) d_Mo_perform_4 (Nat.le_of_ble_eq_true rfl) _ rfl (fun v1 σ1 hv => ?_)
  obtain ⟨rfl, rfl⟩ := hv
  rw [mbind_eq] at hF hS
  generalize F_Mo_isEffect σ x1 = w1 at hF hS ⊢
  refine GW.eqs (st' := [.int w1.1, .int 11, .ref mo]) rfl ?_
  refine g_if_eq C 22 d_Mo_perform_7 (by decide) (fun hc3 => ?_) (fun hc3 => ?_)
  · rw [if_pos hc3] at hF hS
    refine GW.subl [0, 1, 2] rfl ?_
    exact w_Mo_perform_j22 C hE hr hlocks w1.2 x1 x2 11 Fv hS hF
  · rw [if_neg hc3] at hF hS
    refine g_aload_n C d_Mo_perform_10 rfl ?_
    refine g_iload_n C d_Mo_perform_11 rfl ?_
    obtain ⟨hs5, hS⟩ := hS
    refine m_callV (n := 1) (av := [.int x2]) (rest := [.int 11, .ref mo]) C hE (mc_Mo_isNode l D cs B dE mo ad _ _ hs5) km_Mo_217 kv_Mo_isNode kl_Mo_isNode kd_Mo_isNode ki_Mo ⟨rfl, by decide, by decide, by decide⟩ rfl ⟨rfl, rfl⟩ (by decide) (by decide) d_Mo_perform_12 (Nat.le_of_ble_eq_true rfl) _ rfl (fun v1 σ1 hv => ?_)
    obtain ⟨rfl, rfl⟩ := hv
    rw [mbind_eq] at hF hS
    generalize F_Mo_isNode w1.2 x2 = w4 at hF hS ⊢
    refine GW.eqs (st' := [.int w4.1, .int 11, .ref mo]) rfl ?_
    refine g_if_eq C 22 d_Mo_perform_15 (by decide) (fun hc6 => ?_) (fun hc6 => ?_)
    · rw [if_pos hc6] at hF hS
      refine GW.subl [0, 1, 2] rfl ?_
      exact w_Mo_perform_j22 C hE hr hlocks w4.2 x1 x2 11 Fv hS hF
    · rw [if_neg hc6] at hF hS
      refine g_iconst (v := 1) C d_Mo_perform_18 (by decide) ?_
      refine g_goto C 23 d_Mo_perform_19 (by decide) ?_
      refine GW.subl [0, 1, 2] rfl ?_
      exact w_Mo_perform_j23 C hE hr hlocks w4.2 x1 x2 1 11 Fv hS hF
def F_Mo_wrong (σ : mSt) (x1 : Int32) (x2 : Int32) : mSt := if (σ.1 34) = 0 then (mo_si (mo_si σ 34 x1) 35 x2) else (σ)
def S_Mo_wrong (σ : mSt) (x1 : Int32) (x2 : Int32) : Prop := if (σ.1 34) = 0 then (True) else (True)
set_option maxRecDepth 100000 in
set_option maxHeartbeats 4000000 in
theorem mc_Mo_wrong (l : Launch) (D : va_G) (cs : Nat → ClassId) (B : Nat) (dE : Nat × Nat) (mo : Nat) (ad : Nat → Nat) (σ : mSt) (x1 : Int32) (x2 : Int32) (hS : S_Mo_wrong σ x1 x2) : mMet l y_Mo_wrong (Cond.code y_Mo_wrong c_Mo_wrong 3 none) ({ frames := 0, cells := 0, slots := 0, locals := 0 } : Room) D cs B dE mo ad [.ref mo, .int x1, .int x2] σ (fun r σ' => r = none ∧ σ' = F_Mo_wrong σ x1 x2) := by
  refine mMet.ofW (by decide) rfl (Nat.le_of_ble_eq_true rfl) (lv0 := [(0, .ref mo), (1, .int x1), (2, .int x2)]) rfl ?_
  intro p e s m args below meth c M0 C hE hr hlocks
  generalize hF : F_Mo_wrong σ x1 x2 = Fv
  unfold F_Mo_wrong at hF
  unfold S_Mo_wrong at hS
  refine g_aload_n C d_Mo_wrong_0 rfl ?_
  refine m_geti C hE 34 (by decide) (by decide) kf_Mo_164 d_Mo_wrong_1 ?_
  refine g_if_eq C 8 d_Mo_wrong_4 (by decide) (fun hc1 => ?_) (fun hc1 => ?_)
  · rw [if_pos hc1] at hF hS
    refine g_aload_n C d_Mo_wrong_8 rfl ?_
    refine g_iload_n C d_Mo_wrong_9 rfl ?_
    refine m_puti C hE 34 (by decide) (by decide) rfl rfl kf_Mo_164 d_Mo_wrong_10 ?_
    refine g_aload_n C d_Mo_wrong_13 rfl ?_
    refine g_iload_n C d_Mo_wrong_14 rfl ?_
    refine m_puti C hE 35 (by decide) (by decide) rfl rfl kf_Mo_167 d_Mo_wrong_15 ?_
    exact m_vret C hr hlocks d_Mo_wrong_18 (by rw [← hF]; exact ⟨rfl, rfl⟩)
  · rw [if_neg hc1] at hF hS
    exact m_vret C hr hlocks d_Mo_wrong_7 (by rw [← hF]; exact ⟨rfl, rfl⟩)
def F_Mo_into_35 : Nat → mSt → Int32 → Int32 → mSt
  | 0, σ, _, _ => σ
  | n + 1, σ, x2, x3 => if 10 ≤ x3 then (σ) else (if x2 = 0 then (F_Mo_into_35 n (mo_ai σ 30 ((10 * x2) + x3).toNatClampNeg (-1)) x2 (x3 + 1)) else (F_Mo_into_35 n (mo_ai σ 30 ((10 * x2) + x3).toNatClampNeg (σ.2.2.1 30 ((10 * (x2 - 1)) + x3).toNatClampNeg)) x2 (x3 + 1)))
def S_Mo_into_35 : Nat → mSt → Int32 → Int32 → Prop
  | 0, _, _, _ => False
  | n + 1, σ, x2, x3 => if 10 ≤ x3 then (True) else (if x2 = 0 then ((vp_in ((10 * x2) + x3) 450) ∧ (S_Mo_into_35 n (mo_ai σ 30 ((10 * x2) + x3).toNatClampNeg (-1)) x2 (x3 + 1))) else ((vp_in ((10 * (x2 - 1)) + x3) 450) ∧ ((vp_in ((10 * x2) + x3) 450) ∧ (S_Mo_into_35 n (mo_ai σ 30 ((10 * x2) + x3).toNatClampNeg (σ.2.2.1 30 ((10 * (x2 - 1)) + x3).toNatClampNeg)) x2 (x3 + 1)))))
set_option maxRecDepth 100000 in
set_option maxHeartbeats 4000000 in
theorem w_Mo_into_35 {p : Program} {l : Launch} {e : Env} {s : State} {m : MethodId} {args : Array Value} {below : List Frame} {meth : Method} {c : Code} {D : va_G} {cs : Nat → ClassId} {B : Nat} {dE : Nat × Nat} {mo : Nat} {ad : Nat → Nat} {M0 : gMem} {Q : State → Prop} (C : CallFix p m c c_Mo_into 4 s args gT R_Mo) (hE : gEnv D gcl (gtys cs) gz B dE s) (n : Nat) (σ : mSt) (x2 : Int32) (x3 : Int32) (Fv : mSt) (hS : S_Mo_into_35 n σ x2 x3) (hF : F_Mo_into_35 n σ x2 x3 = Fv) (hk : GW p l e ({ frames := 0, cells := 0, slots := 0, locals := 0 } : Room) s m args below meth c 4 (gA B) Q (mo_P D B cs mo ad M0 Fv) 0 0 79 [(0, .ref mo)] []) : GW p l e ({ frames := 0, cells := 0, slots := 0, locals := 0 } : Room) s m args below meth c 4 (gA B) Q (mo_P D B cs mo ad M0 σ) 0 0 35 [(0, .ref mo), (2, .int x2), (3, .int x3)] [] := by
  induction n generalizing σ x2 x3 Fv with
  | zero => exact hS.elim
  | succ n ih =>
    unfold F_Mo_into_35 at hF
    unfold S_Mo_into_35 at hS
    refine g_iload_n C d_Mo_into_35 rfl ?_
    refine g_bipush (v := 10) C d_Mo_into_36 (by decide) ?_
    refine g_icmp_ge C 79 d_Mo_into_38 (by decide) (fun hc7 => ?_) (fun hc7 => ?_)
    · rw [if_pos hc7] at hF hS
      refine GW.subl [0] rfl ?_
      rw [← hF] at hk
      exact hk
    · rw [if_neg hc7] at hF hS
      refine g_aload_n C d_Mo_into_41 rfl ?_
      refine m_geta C hE 30 (by decide) (by decide) (by decide) kf_Mo_87 d_Mo_into_42 ?_
      refine g_bipush (v := 10) C d_Mo_into_45 (by decide) ?_
      refine g_iload_n C d_Mo_into_47 rfl ?_
      refine g_imul C d_Mo_into_48 ?_
      refine g_iload_n C d_Mo_into_49 rfl ?_
      refine g_iadd C d_Mo_into_50 ?_
      refine g_iload_n C d_Mo_into_51 rfl ?_
      refine g_if_ne C 59 d_Mo_into_52 (by decide) (fun hc8 => ?_) (fun hc8 => ?_)
      · rw [if_neg hc8] at hF hS
        refine g_aload_n C d_Mo_into_59 rfl ?_
        refine m_geta C hE 30 (by decide) (by decide) (by decide) kf_Mo_87 d_Mo_into_60 ?_
        refine g_bipush (v := 10) C d_Mo_into_63 (by decide) ?_
        refine g_iload_n C d_Mo_into_65 rfl ?_
        refine g_iconst (v := 1) C d_Mo_into_66 (by decide) ?_
        refine g_isub C d_Mo_into_67 ?_
        refine g_imul C d_Mo_into_68 ?_
        refine g_iload_n C d_Mo_into_69 rfl ?_
        refine g_iadd C d_Mo_into_70 ?_
        obtain ⟨hi9, hS⟩ := hS
        refine m_ald C hE 30 (by decide) (by decide) hi9 d_Mo_into_71 ?_
        obtain ⟨hi10, hS⟩ := hS
        refine m_ast C hE 30 (by decide) (by decide) hi10 d_Mo_into_72 ?_
        refine g_iinc (v := x3 + 1) (lv' := [(3, .int (x3 + 1)), (0, .ref mo), (2, .int x2)]) C d_Mo_into_73 rfl rfl (by decide) rfl ?_
        refine g_goto C 35 d_Mo_into_76 (by decide) ?_
        refine GW.subl [1, 2, 0] rfl ?_
        exact ih (mo_ai σ 30 ((10 * x2) + x3).toNatClampNeg (σ.2.2.1 30 ((10 * (x2 - 1)) + x3).toNatClampNeg)) x2 (x3 + 1) Fv hS hF hk
      · rw [if_pos hc8] at hF hS
        refine g_iconst (v := (-1)) C d_Mo_into_55 (by decide) ?_
        refine g_goto C 72 d_Mo_into_56 (by decide) ?_
        obtain ⟨hi11, hS⟩ := hS
        refine m_ast C hE 30 (by decide) (by decide) hi11 d_Mo_into_72 ?_
        refine g_iinc (v := x3 + 1) (lv' := [(3, .int (x3 + 1)), (0, .ref mo), (2, .int x2)]) C d_Mo_into_73 rfl rfl (by decide) rfl ?_
        refine g_goto C 35 d_Mo_into_76 (by decide) ?_
        refine GW.subl [1, 2, 0] rfl ?_
        exact ih (mo_ai σ 30 ((10 * x2) + x3).toNatClampNeg (-1)) x2 (x3 + 1) Fv hS hF hk
def F_Mo_into (n : Nat) (σ : mSt) (x1 : Int32) : mSt := mbind (F_Mo_into_35 n (mo_ai (mo_ai (mo_ai (mo_ai σ 26 (σ.1 31).toNatClampNeg x1) 27 (σ.1 31).toNatClampNeg 0) 29 (σ.1 31).toNatClampNeg 0) 28 (σ.1 31).toNatClampNeg 0) (σ.1 31) 0) (fun w5 => mo_si w5 31 ((w5.1 31) + 1))
def S_Mo_into (n : Nat) (σ : mSt) (x1 : Int32) : Prop := (vp_in (σ.1 31) 45) ∧ ((vp_in (σ.1 31) 45) ∧ ((vp_in (σ.1 31) 45) ∧ ((vp_in (σ.1 31) 45) ∧ ((S_Mo_into_35 n (mo_ai (mo_ai (mo_ai (mo_ai σ 26 (σ.1 31).toNatClampNeg x1) 27 (σ.1 31).toNatClampNeg 0) 29 (σ.1 31).toNatClampNeg 0) 28 (σ.1 31).toNatClampNeg 0) (σ.1 31) 0) ∧ (mbind (F_Mo_into_35 n (mo_ai (mo_ai (mo_ai (mo_ai σ 26 (σ.1 31).toNatClampNeg x1) 27 (σ.1 31).toNatClampNeg 0) 29 (σ.1 31).toNatClampNeg 0) 28 (σ.1 31).toNatClampNeg 0) (σ.1 31) 0) (fun w5 => True))))))
set_option maxRecDepth 100000 in
set_option maxHeartbeats 4000000 in
theorem mc_Mo_into (l : Launch) (D : va_G) (cs : Nat → ClassId) (B : Nat) (dE : Nat × Nat) (mo : Nat) (ad : Nat → Nat) (n : Nat) (σ : mSt) (x1 : Int32) (hS : S_Mo_into n σ x1) : mMet l y_Mo_into (Cond.code y_Mo_into c_Mo_into 4 none) ({ frames := 0, cells := 0, slots := 0, locals := 0 } : Room) D cs B dE mo ad [.ref mo, .int x1] σ (fun r σ' => r = none ∧ σ' = F_Mo_into n σ x1) := by
  refine mMet.ofW (by decide) rfl (Nat.le_of_ble_eq_true rfl) (lv0 := [(0, .ref mo), (1, .int x1)]) rfl ?_
  intro p e s m args below meth c M0 C hE hr hlocks
  generalize hF : F_Mo_into n σ x1 = Fv
  unfold F_Mo_into at hF
  unfold S_Mo_into at hS
  refine g_aload_n C d_Mo_into_0 rfl ?_
  refine m_geti C hE 31 (by decide) (by decide) kf_Mo_220 d_Mo_into_1 ?_
  refine g_istore_n (lv' := [(2, .int (σ.1 31)), (0, .ref mo), (1, .int x1)]) C d_Mo_into_4 (by decide) rfl ?_
  refine g_aload_n C d_Mo_into_5 rfl ?_
  refine m_geta C hE 26 (by decide) (by decide) (by decide) kf_Mo_75 d_Mo_into_6 ?_
  refine g_iload_n C d_Mo_into_9 rfl ?_
  refine g_iload_n C d_Mo_into_10 rfl ?_
  obtain ⟨hi1, hS⟩ := hS
  refine m_ast C hE 26 (by decide) (by decide) hi1 d_Mo_into_11 ?_
  refine g_aload_n C d_Mo_into_12 rfl ?_
  refine m_geta C hE 27 (by decide) (by decide) (by decide) kf_Mo_78 d_Mo_into_13 ?_
  refine g_iload_n C d_Mo_into_16 rfl ?_
  refine g_iconst (v := 0) C d_Mo_into_17 (by decide) ?_
  obtain ⟨hi2, hS⟩ := hS
  refine m_ast C hE 27 (by decide) (by decide) hi2 d_Mo_into_18 ?_
  refine g_aload_n C d_Mo_into_19 rfl ?_
  refine m_geta C hE 29 (by decide) (by decide) (by decide) kf_Mo_84 d_Mo_into_20 ?_
  refine g_iload_n C d_Mo_into_23 rfl ?_
  refine g_iconst (v := 0) C d_Mo_into_24 (by decide) ?_
  obtain ⟨hi3, hS⟩ := hS
  refine m_ast C hE 29 (by decide) (by decide) hi3 d_Mo_into_25 ?_
  refine g_aload_n C d_Mo_into_26 rfl ?_
  refine m_geta C hE 28 (by decide) (by decide) (by decide) kf_Mo_81 d_Mo_into_27 ?_
  refine g_iload_n C d_Mo_into_30 rfl ?_
  refine g_iconst (v := 0) C d_Mo_into_31 (by decide) ?_
  obtain ⟨hi4, hS⟩ := hS
  refine m_ast C hE 28 (by decide) (by decide) hi4 d_Mo_into_32 ?_
  refine g_iconst (v := 0) C d_Mo_into_33 (by decide) ?_
  refine g_istore_n (lv' := [(3, .int 0), (2, .int (σ.1 31)), (0, .ref mo), (1, .int x1)]) C d_Mo_into_34 (by decide) rfl ?_
  obtain ⟨hs6, hS⟩ := hS
  rw [mbind_eq] at hF hS
  refine GW.subl [2, 1, 0] rfl ?_
  refine w_Mo_into_35 C hE n (mo_ai (mo_ai (mo_ai (mo_ai σ 26 (σ.1 31).toNatClampNeg x1) 27 (σ.1 31).toNatClampNeg 0) 29 (σ.1 31).toNatClampNeg 0) 28 (σ.1 31).toNatClampNeg 0) (σ.1 31) 0 _ hs6 rfl ?_
  generalize F_Mo_into_35 n (mo_ai (mo_ai (mo_ai (mo_ai σ 26 (σ.1 31).toNatClampNeg x1) 27 (σ.1 31).toNatClampNeg 0) 29 (σ.1 31).toNatClampNeg 0) 28 (σ.1 31).toNatClampNeg 0) (σ.1 31) 0 = w5 at hF hS ⊢
  refine g_aload_n C d_Mo_into_79 rfl ?_
  refine g_dup C d_Mo_into_80 rfl ?_
  refine m_geti C hE 31 (by decide) (by decide) kf_Mo_220 d_Mo_into_81 ?_
  refine g_iconst (v := 1) C d_Mo_into_84 (by decide) ?_
  refine g_iadd C d_Mo_into_85 ?_
  refine m_puti C hE 31 (by decide) (by decide) rfl rfl kf_Mo_220 d_Mo_into_86 ?_
  exact m_vret C hr hlocks d_Mo_into_89 (by rw [← hF]; exact ⟨rfl, rfl⟩)
def F_Mo_intoWith (n : Nat) (σ : mSt) (x1 : Int32) (x2 : Int32) (x3 : Int32) : mSt := mbind (F_Mo_into n σ x1) (fun w1 => mo_ai w1 30 ((10 * ((w1.1 31) - 1)) + x2).toNatClampNeg x3)
def S_Mo_intoWith (n : Nat) (σ : mSt) (x1 : Int32) (x2 : Int32) (x3 : Int32) : Prop := (S_Mo_into n σ x1) ∧ (mbind (F_Mo_into n σ x1) (fun w1 => (vp_in ((10 * ((w1.1 31) - 1)) + x2) 450) ∧ (True)))
set_option maxRecDepth 100000 in
set_option maxHeartbeats 4000000 in
theorem mc_Mo_intoWith (l : Launch) (D : va_G) (cs : Nat → ClassId) (B : Nat) (dE : Nat × Nat) (mo : Nat) (ad : Nat → Nat) (n : Nat) (σ : mSt) (x1 : Int32) (x2 : Int32) (x3 : Int32) (hS : S_Mo_intoWith n σ x1 x2 x3) : mMet l y_Mo_intoWith (Cond.code y_Mo_intoWith c_Mo_intoWith 4 none) ({ frames := 1, cells := 0, slots := 0, locals := 23 } : Room) D cs B dE mo ad [.ref mo, .int x1, .int x2, .int x3] σ (fun r σ' => r = none ∧ σ' = F_Mo_intoWith n σ x1 x2 x3) := by
  refine mMet.ofW (by decide) rfl (Nat.le_of_ble_eq_true rfl) (lv0 := [(0, .ref mo), (1, .int x1), (2, .int x2), (3, .int x3)]) rfl ?_
  intro p e s m args below meth c M0 C hE hr hlocks
  generalize hF : F_Mo_intoWith n σ x1 x2 x3 = Fv
  unfold F_Mo_intoWith at hF
  unfold S_Mo_intoWith at hS
  refine g_aload_n C d_Mo_intoWith_0 rfl ?_
  refine g_iload_n C d_Mo_intoWith_1 rfl ?_
  obtain ⟨hs2, hS⟩ := hS
  refine m_callV (n := 1) (av := [.int x1]) (rest := []) C hE (mc_Mo_into l D cs B dE mo ad n _ _ hs2) km_Mo_223 kv_Mo_into kl_Mo_into kd_Mo_into ki_Mo ⟨rfl, by decide, by decide, by decide⟩ rfl ⟨rfl, rfl⟩ (by decide) (by decide) d_Mo_intoWith_2 (Nat.le_of_ble_eq_true rfl) _ rfl (fun v1 σ1 hv => ?_)
  obtain ⟨rfl, rfl⟩ := hv
  rw [mbind_eq] at hF hS
  generalize F_Mo_into n σ x1 = w1 at hF hS ⊢
  refine GW.eqs (st' := []) rfl ?_
  refine g_aload_n C d_Mo_intoWith_5 rfl ?_
  refine m_geta C hE 30 (by decide) (by decide) (by decide) kf_Mo_87 d_Mo_intoWith_6 ?_
  refine g_bipush (v := 10) C d_Mo_intoWith_9 (by decide) ?_
  refine g_aload_n C d_Mo_intoWith_11 rfl ?_
  refine m_geti C hE 31 (by decide) (by decide) kf_Mo_220 d_Mo_intoWith_12 ?_
  refine g_iconst (v := 1) C d_Mo_intoWith_15 (by decide) ?_
  refine g_isub C d_Mo_intoWith_16 ?_
  refine g_imul C d_Mo_intoWith_17 ?_
  refine g_iload_n C d_Mo_intoWith_18 rfl ?_
  refine g_iadd C d_Mo_intoWith_19 ?_
  refine g_iload_n C d_Mo_intoWith_20 rfl ?_
  obtain ⟨hi3, hS⟩ := hS
  refine m_ast C hE 30 (by decide) (by decide) hi3 d_Mo_intoWith_21 ?_
  exact m_vret C hr hlocks d_Mo_intoWith_22 (by rw [← hF]; exact ⟨rfl, rfl⟩)
def F_Mo_ends (σ : mSt) (x1 : Int32) (x2 : Int32) : mSt := mo_si (mo_si (mo_si σ 32 x1) 33 x2) 31 (((mo_si (mo_si σ 32 x1) 33 x2).1 31) - 1)
def S_Mo_ends (σ : mSt) (x1 : Int32) (x2 : Int32) : Prop := True
set_option maxRecDepth 100000 in
set_option maxHeartbeats 4000000 in
theorem mc_Mo_ends (l : Launch) (D : va_G) (cs : Nat → ClassId) (B : Nat) (dE : Nat × Nat) (mo : Nat) (ad : Nat → Nat) (σ : mSt) (x1 : Int32) (x2 : Int32) (hS : S_Mo_ends σ x1 x2) : mMet l y_Mo_ends (Cond.code y_Mo_ends c_Mo_ends 3 none) ({ frames := 0, cells := 0, slots := 0, locals := 0 } : Room) D cs B dE mo ad [.ref mo, .int x1, .int x2] σ (fun r σ' => r = none ∧ σ' = F_Mo_ends σ x1 x2) := by
  refine mMet.ofW (by decide) rfl (Nat.le_of_ble_eq_true rfl) (lv0 := [(0, .ref mo), (1, .int x1), (2, .int x2)]) rfl ?_
  intro p e s m args below meth c M0 C hE hr hlocks
  generalize hF : F_Mo_ends σ x1 x2 = Fv
  unfold F_Mo_ends at hF
  unfold S_Mo_ends at hS
  refine g_aload_n C d_Mo_ends_0 rfl ?_
  refine g_iload_n C d_Mo_ends_1 rfl ?_
  refine m_puti C hE 32 (by decide) (by decide) rfl rfl kf_Mo_227 d_Mo_ends_2 ?_
  refine g_aload_n C d_Mo_ends_5 rfl ?_
  refine g_iload_n C d_Mo_ends_6 rfl ?_
  refine m_puti C hE 33 (by decide) (by decide) rfl rfl kf_Mo_230 d_Mo_ends_7 ?_
  refine g_aload_n C d_Mo_ends_10 rfl ?_
  refine g_dup C d_Mo_ends_11 rfl ?_
  refine m_geti C hE 31 (by decide) (by decide) kf_Mo_220 d_Mo_ends_12 ?_
  refine g_iconst (v := 1) C d_Mo_ends_15 (by decide) ?_
  refine g_isub C d_Mo_ends_16 ?_
  refine m_puti C hE 31 (by decide) (by decide) rfl rfl kf_Mo_220 d_Mo_ends_17 ?_
  exact m_vret C hr hlocks d_Mo_ends_20 (by rw [← hF]; exact ⟨rfl, rfl⟩)
def F_Mo_checkRec_j131 (n : Nat) (σ : mSt) (x2 : Int32) (x4 : Int32) : mSt := mbind (F_Mo_intoWith n σ (σ.2.2.1 10 x2.toNatClampNeg) (σ.2.2.1 6 x2.toNatClampNeg) x4) (fun w26 => w26)
def S_Mo_checkRec_j131 (n : Nat) (σ : mSt) (x2 : Int32) (x4 : Int32) : Prop := (vp_in x2 200) ∧ ((vp_in x2 200) ∧ ((S_Mo_intoWith n σ (σ.2.2.1 10 x2.toNatClampNeg) (σ.2.2.1 6 x2.toNatClampNeg) x4) ∧ (mbind (F_Mo_intoWith n σ (σ.2.2.1 10 x2.toNatClampNeg) (σ.2.2.1 6 x2.toNatClampNeg) x4) (fun w26 => True))))
set_option maxRecDepth 100000 in
set_option maxHeartbeats 4000000 in
theorem w_Mo_checkRec_j131 {p : Program} {l : Launch} {e : Env} {s : State} {m : MethodId} {args : Array Value} {below : List Frame} {meth : Method} {c : Code} {D : va_G} {cs : Nat → ClassId} {B : Nat} {dE : Nat × Nat} {mo : Nat} {ad : Nat → Nat} {M0 : gMem} (C : CallFix p m c c_Mo_checkRec 5 s args gT R_Mo) (hE : gEnv D gcl (gtys cs) gz B dE s) (hr : meth.sig.returnType = none) (hlocks : meth.locks = false) (n : Nat) (σ : mSt) (x2 : Int32) (x4 : Int32) (Fv : mSt) (hS : S_Mo_checkRec_j131 n σ x2 x4) (hF : F_Mo_checkRec_j131 n σ x2 x4 = Fv) : GW p l e ({ frames := 2, cells := 0, slots := 0, locals := 46 } : Room) s m args below meth c 5 (gA B) (mQ below D cs B mo ad M0 (fun r σ' => r = none ∧ σ' = Fv) args s) (mo_P D B cs mo ad M0 σ) 0 0 131 [(0, .ref mo), (2, .int x2), (4, .int x4)] [] := by
  unfold F_Mo_checkRec_j131 at hF
  unfold S_Mo_checkRec_j131 at hS
  refine g_aload_n C d_Mo_checkRec_131 rfl ?_
  refine g_aload_n C d_Mo_checkRec_132 rfl ?_
  refine m_geta C hE 10 (by decide) (by decide) (by decide) kf_Mo_25 d_Mo_checkRec_133 ?_
  refine g_iload_n C d_Mo_checkRec_136 rfl ?_
  obtain ⟨hi24, hS⟩ := hS
  refine m_ald C hE 10 (by decide) (by decide) hi24 d_Mo_checkRec_137 ?_
  refine g_aload_n C d_Mo_checkRec_138 rfl ?_
  refine m_geta C hE 6 (by decide) (by decide) (by decide) kf_Mo_13 d_Mo_checkRec_139 ?_
  refine g_iload_n C d_Mo_checkRec_142 rfl ?_
  obtain ⟨hi25, hS⟩ := hS
  refine m_ald C hE 6 (by decide) (by decide) hi25 d_Mo_checkRec_143 ?_
  refine g_iload C d_Mo_checkRec_144 rfl ?_
  obtain ⟨hs27, hS⟩ := hS
  refine m_callV (n := 3) (av := [.int (σ.2.2.1 10 x2.toNatClampNeg), .int (σ.2.2.1 6 x2.toNatClampNeg), .int x4]) (rest := []) C hE (mc_Mo_intoWith l D cs B dE mo ad n _ _ _ _ hs27) km_Mo_233 kv_Mo_intoWith kl_Mo_intoWith kd_Mo_intoWith ki_Mo ⟨rfl, by decide, by decide, by decide⟩ rfl ⟨rfl, rfl⟩ (by decide) (by decide) d_Mo_checkRec_146 (Nat.le_of_ble_eq_true rfl) _ rfl (fun v1 σ1 hv => ?_)
  obtain ⟨rfl, rfl⟩ := hv
  rw [mbind_eq] at hF hS
  generalize F_Mo_intoWith n σ (σ.2.2.1 10 x2.toNatClampNeg) (σ.2.2.1 6 x2.toNatClampNeg) x4 = w26 at hF hS ⊢
  refine GW.eqs (st' := []) rfl ?_
  refine g_goto C 164 d_Mo_checkRec_149 (by decide) ?_
  exact m_vret C hr hlocks d_Mo_checkRec_164 (by rw [← hF]; exact ⟨rfl, rfl⟩)
def F_Mo_checkRec_j102 (n : Nat) (σ : mSt) (x2 : Int32) (x4 : Int32) : mSt := if ((σ.1 33) &&& ((σ.2.2.1 22 x4.toNatClampNeg) ^^^ (-1))) = 0 then (F_Mo_checkRec_j131 n σ x2 x4) else (mbind (F_Mo_wrong σ 7 (σ.2.2.1 9 x2.toNatClampNeg)) (fun w22 => F_Mo_checkRec_j131 n w22 x2 x4))
def S_Mo_checkRec_j102 (n : Nat) (σ : mSt) (x2 : Int32) (x4 : Int32) : Prop := (vp_in x4 520) ∧ (if ((σ.1 33) &&& ((σ.2.2.1 22 x4.toNatClampNeg) ^^^ (-1))) = 0 then (S_Mo_checkRec_j131 n σ x2 x4) else ((vp_in x2 200) ∧ ((S_Mo_wrong σ 7 (σ.2.2.1 9 x2.toNatClampNeg)) ∧ (mbind (F_Mo_wrong σ 7 (σ.2.2.1 9 x2.toNatClampNeg)) (fun w22 => S_Mo_checkRec_j131 n w22 x2 x4)))))
set_option maxRecDepth 100000 in
set_option maxHeartbeats 4000000 in
theorem w_Mo_checkRec_j102 {p : Program} {l : Launch} {e : Env} {s : State} {m : MethodId} {args : Array Value} {below : List Frame} {meth : Method} {c : Code} {D : va_G} {cs : Nat → ClassId} {B : Nat} {dE : Nat × Nat} {mo : Nat} {ad : Nat → Nat} {M0 : gMem} (C : CallFix p m c c_Mo_checkRec 5 s args gT R_Mo) (hE : gEnv D gcl (gtys cs) gz B dE s) (hr : meth.sig.returnType = none) (hlocks : meth.locks = false) (n : Nat) (σ : mSt) (x2 : Int32) (x4 : Int32) (Fv : mSt) (hS : S_Mo_checkRec_j102 n σ x2 x4) (hF : F_Mo_checkRec_j102 n σ x2 x4 = Fv) : GW p l e ({ frames := 2, cells := 0, slots := 0, locals := 46 } : Room) s m args below meth c 5 (gA B) (mQ below D cs B mo ad M0 (fun r σ' => r = none ∧ σ' = Fv) args s) (mo_P D B cs mo ad M0 σ) 0 0 102 [(0, .ref mo), (2, .int x2), (4, .int x4)] [] := by
  unfold F_Mo_checkRec_j102 at hF
  unfold S_Mo_checkRec_j102 at hS
  refine g_aload_n C d_Mo_checkRec_102 rfl ?_
  refine m_geti C hE 33 (by decide) (by decide) kf_Mo_230 d_Mo_checkRec_103 ?_
  refine g_aload_n C d_Mo_checkRec_106 rfl ?_
  refine m_geta C hE 22 (by decide) (by decide) (by decide) kf_Mo_61 d_Mo_checkRec_107 ?_
  refine g_iload C d_Mo_checkRec_110 rfl ?_
  obtain ⟨hi19, hS⟩ := hS
  refine m_ald C hE 22 (by decide) (by decide) hi19 d_Mo_checkRec_112 ?_
  refine g_iconst (v := (-1)) C d_Mo_checkRec_113 (by decide) ?_
  refine g_ixor C d_Mo_checkRec_114 ?_
  refine g_iand C d_Mo_checkRec_115 ?_
  refine g_if_eq C 131 d_Mo_checkRec_116 (by decide) (fun hc20 => ?_) (fun hc20 => ?_)
  · rw [if_pos hc20] at hF hS
    refine GW.subl [0, 1, 2] rfl ?_
    exact w_Mo_checkRec_j131 C hE hr hlocks n σ x2 x4 Fv hS hF
  · rw [if_neg hc20] at hF hS
    refine g_aload_n C d_Mo_checkRec_119 rfl ?_
    refine g_bipush (v := 7) C d_Mo_checkRec_120 (by decide) ?_
    refine g_aload_n C d_Mo_checkRec_122 rfl ?_
    refine m_geta C hE 9 (by decide) (by decide) (by decide) kf_Mo_22 d_Mo_checkRec_123 ?_
    refine g_iload_n C d_Mo_checkRec_126 rfl ?_
    obtain ⟨hi21, hS⟩ := hS
    refine m_ald C hE 9 (by decide) (by decide) hi21 d_Mo_checkRec_127 ?_
    obtain ⟨hs23, hS⟩ := hS
    refine m_callV (n := 2) (av := [.int 7, .int (σ.2.2.1 9 x2.toNatClampNeg)]) (rest := []) C hE (mc_Mo_wrong l D cs B dE mo ad _ _ _ hs23) km_Mo_237 kv_Mo_wrong kl_Mo_wrong kd_Mo_wrong ki_Mo ⟨rfl, by decide, by decide, by decide⟩ rfl ⟨rfl, rfl⟩ (by decide) (by decide) d_Mo_checkRec_128 (Nat.le_of_ble_eq_true rfl) _ rfl (fun v1 σ1 hv => ?_)
    obtain ⟨rfl, rfl⟩ := hv
    rw [mbind_eq] at hF hS
    generalize F_Mo_wrong σ 7 (σ.2.2.1 9 x2.toNatClampNeg) = w22 at hF hS ⊢
    refine GW.eqs (st' := []) rfl ?_
    refine GW.subl [0, 1, 2] rfl ?_
    exact w_Mo_checkRec_j131 C hE hr hlocks n w22 x2 x4 Fv hS hF
def F_Mo_checkRec (n : Nat) (σ : mSt) (x1 : Int32) (x2 : Int32) (x3 : Int32) : mSt := if x3 = 0 then (mbind (F_Mo_intoWith n σ (σ.2.2.1 9 x2.toNatClampNeg) (σ.2.2.1 6 x2.toNatClampNeg) (σ.2.2.1 8 x2.toNatClampNeg)) (fun w14 => mo_ai w14 30 ((10 * ((w14.1 31) - 1)) + (w14.2.2.1 7 x2.toNatClampNeg)).toNatClampNeg (w14.2.2.1 20 (σ.2.2.1 8 x2.toNatClampNeg).toNatClampNeg))) else (if x3 = 1 then (if (σ.2.2.1 23 ((520 * (σ.1 32)) + (σ.2.2.1 21 (σ.2.2.1 8 x2.toNatClampNeg).toNatClampNeg)).toNatClampNeg) = 0 then (mbind (F_Mo_wrong σ 6 (σ.2.2.1 9 x2.toNatClampNeg)) (fun w10 => F_Mo_checkRec_j102 n w10 x2 (σ.2.2.1 8 x2.toNatClampNeg))) else (F_Mo_checkRec_j102 n σ x2 (σ.2.2.1 8 x2.toNatClampNeg))) else (mbind (F_Mo_ends σ (σ.1 32) (σ.1 33)) (fun w4 => w4)))
def S_Mo_checkRec (n : Nat) (σ : mSt) (x1 : Int32) (x2 : Int32) (x3 : Int32) : Prop := (vp_in x2 200) ∧ (if x3 = 0 then ((vp_in x2 200) ∧ ((vp_in x2 200) ∧ ((S_Mo_intoWith n σ (σ.2.2.1 9 x2.toNatClampNeg) (σ.2.2.1 6 x2.toNatClampNeg) (σ.2.2.1 8 x2.toNatClampNeg)) ∧ (mbind (F_Mo_intoWith n σ (σ.2.2.1 9 x2.toNatClampNeg) (σ.2.2.1 6 x2.toNatClampNeg) (σ.2.2.1 8 x2.toNatClampNeg)) (fun w14 => (vp_in x2 200) ∧ ((vp_in (σ.2.2.1 8 x2.toNatClampNeg) 520) ∧ ((vp_in ((10 * ((w14.1 31) - 1)) + (w14.2.2.1 7 x2.toNatClampNeg)) 450) ∧ (True)))))))) else (if x3 = 1 then ((vp_in (σ.2.2.1 8 x2.toNatClampNeg) 520) ∧ ((vp_in ((520 * (σ.1 32)) + (σ.2.2.1 21 (σ.2.2.1 8 x2.toNatClampNeg).toNatClampNeg)) 270400) ∧ (if (σ.2.2.1 23 ((520 * (σ.1 32)) + (σ.2.2.1 21 (σ.2.2.1 8 x2.toNatClampNeg).toNatClampNeg)).toNatClampNeg) = 0 then ((vp_in x2 200) ∧ ((S_Mo_wrong σ 6 (σ.2.2.1 9 x2.toNatClampNeg)) ∧ (mbind (F_Mo_wrong σ 6 (σ.2.2.1 9 x2.toNatClampNeg)) (fun w10 => S_Mo_checkRec_j102 n w10 x2 (σ.2.2.1 8 x2.toNatClampNeg))))) else (S_Mo_checkRec_j102 n σ x2 (σ.2.2.1 8 x2.toNatClampNeg))))) else ((S_Mo_ends σ (σ.1 32) (σ.1 33)) ∧ (mbind (F_Mo_ends σ (σ.1 32) (σ.1 33)) (fun w4 => True)))))
set_option maxRecDepth 100000 in
set_option maxHeartbeats 4000000 in
theorem mc_Mo_checkRec (l : Launch) (D : va_G) (cs : Nat → ClassId) (B : Nat) (dE : Nat × Nat) (mo : Nat) (ad : Nat → Nat) (n : Nat) (σ : mSt) (x1 : Int32) (x2 : Int32) (x3 : Int32) (hS : S_Mo_checkRec n σ x1 x2 x3) : mMet l y_Mo_checkRec (Cond.code y_Mo_checkRec c_Mo_checkRec 5 none) ({ frames := 2, cells := 0, slots := 0, locals := 46 } : Room) D cs B dE mo ad [.ref mo, .int x1, .int x2, .int x3] σ (fun r σ' => r = none ∧ σ' = F_Mo_checkRec n σ x1 x2 x3) := by
  refine mMet.ofW (by decide) rfl (Nat.le_of_ble_eq_true rfl) (lv0 := [(0, .ref mo), (1, .int x1), (2, .int x2), (3, .int x3)]) rfl ?_
  intro p e s m args below meth c M0 C hE hr hlocks
  generalize hF : F_Mo_checkRec n σ x1 x2 x3 = Fv
  unfold F_Mo_checkRec at hF
  unfold S_Mo_checkRec at hS
  refine g_aload_n C d_Mo_checkRec_0 rfl ?_
  refine m_geta C hE 8 (by decide) (by decide) (by decide) kf_Mo_19 d_Mo_checkRec_1 ?_
  refine g_iload_n C d_Mo_checkRec_4 rfl ?_
  obtain ⟨hi1, hS⟩ := hS
  refine m_ald C hE 8 (by decide) (by decide) hi1 d_Mo_checkRec_5 ?_
  refine g_istore (lv' := [(4, .int (σ.2.2.1 8 x2.toNatClampNeg)), (0, .ref mo), (1, .int x1), (2, .int x2), (3, .int x3)]) C d_Mo_checkRec_6 (by decide) rfl ?_
  refine g_iload_n C d_Mo_checkRec_8 rfl ?_
  refine g_if_ne C 61 d_Mo_checkRec_9 (by decide) (fun hc2 => ?_) (fun hc2 => ?_)
  · rw [if_neg hc2] at hF hS
    refine g_iload_n C d_Mo_checkRec_61 rfl ?_
    refine g_iconst (v := 1) C d_Mo_checkRec_62 (by decide) ?_
    refine g_icmp_ne C 152 d_Mo_checkRec_63 (by decide) (fun hc3 => ?_) (fun hc3 => ?_)
    · rw [if_neg hc3] at hF hS
      refine g_aload_n C d_Mo_checkRec_152 rfl ?_
      refine g_aload_n C d_Mo_checkRec_153 rfl ?_
      refine m_geti C hE 32 (by decide) (by decide) kf_Mo_227 d_Mo_checkRec_154 ?_
      refine g_aload_n C d_Mo_checkRec_157 rfl ?_
      refine m_geti C hE 33 (by decide) (by decide) kf_Mo_230 d_Mo_checkRec_158 ?_
      obtain ⟨hs5, hS⟩ := hS
      refine m_callV (n := 2) (av := [.int (σ.1 32), .int (σ.1 33)]) (rest := []) C hE (mc_Mo_ends l D cs B dE mo ad _ _ _ hs5) km_Mo_240 kv_Mo_ends kl_Mo_ends kd_Mo_ends ki_Mo ⟨rfl, by decide, by decide, by decide⟩ rfl ⟨rfl, rfl⟩ (by decide) (by decide) d_Mo_checkRec_161 (Nat.le_of_ble_eq_true rfl) _ rfl (fun v1 σ1 hv => ?_)
      obtain ⟨rfl, rfl⟩ := hv
      rw [mbind_eq] at hF hS
      generalize F_Mo_ends σ (σ.1 32) (σ.1 33) = w4 at hF hS ⊢
      refine GW.eqs (st' := []) rfl ?_
      exact m_vret C hr hlocks d_Mo_checkRec_164 (by rw [← hF]; exact ⟨rfl, rfl⟩)
    · rw [if_pos hc3] at hF hS
      refine g_aload_n C d_Mo_checkRec_66 rfl ?_
      refine m_geta C hE 23 (by decide) (by decide) (by decide) kf_Mo_65 d_Mo_checkRec_67 ?_
      refine g_sipush (v := 520) C d_Mo_checkRec_70 (by decide) ?_
      refine g_aload_n C d_Mo_checkRec_73 rfl ?_
      refine m_geti C hE 32 (by decide) (by decide) kf_Mo_227 d_Mo_checkRec_74 ?_
      refine g_imul C d_Mo_checkRec_77 ?_
      refine g_aload_n C d_Mo_checkRec_78 rfl ?_
      refine m_geta C hE 21 (by decide) (by decide) (by decide) kf_Mo_58 d_Mo_checkRec_79 ?_
      refine g_iload C d_Mo_checkRec_82 rfl ?_
      obtain ⟨hi6, hS⟩ := hS
      refine m_ald C hE 21 (by decide) (by decide) hi6 d_Mo_checkRec_84 ?_
      refine g_iadd C d_Mo_checkRec_85 ?_
      obtain ⟨hi7, hS⟩ := hS
      refine m_zald C hE 23 (by decide) (by decide) hi7 d_Mo_checkRec_86 ?_
      refine g_if_ne C 102 d_Mo_checkRec_87 (by decide) (fun hc8 => ?_) (fun hc8 => ?_)
      · rw [if_neg hc8] at hF hS
        refine GW.subl [1, 3, 0] rfl ?_
        exact w_Mo_checkRec_j102 C hE hr hlocks n σ x2 (σ.2.2.1 8 x2.toNatClampNeg) Fv hS hF
      · rw [if_pos hc8] at hF hS
        refine g_aload_n C d_Mo_checkRec_90 rfl ?_
        refine g_bipush (v := 6) C d_Mo_checkRec_91 (by decide) ?_
        refine g_aload_n C d_Mo_checkRec_93 rfl ?_
        refine m_geta C hE 9 (by decide) (by decide) (by decide) kf_Mo_22 d_Mo_checkRec_94 ?_
        refine g_iload_n C d_Mo_checkRec_97 rfl ?_
        obtain ⟨hi9, hS⟩ := hS
        refine m_ald C hE 9 (by decide) (by decide) hi9 d_Mo_checkRec_98 ?_
        obtain ⟨hs11, hS⟩ := hS
        refine m_callV (n := 2) (av := [.int 6, .int (σ.2.2.1 9 x2.toNatClampNeg)]) (rest := []) C hE (mc_Mo_wrong l D cs B dE mo ad _ _ _ hs11) km_Mo_237 kv_Mo_wrong kl_Mo_wrong kd_Mo_wrong ki_Mo ⟨rfl, by decide, by decide, by decide⟩ rfl ⟨rfl, rfl⟩ (by decide) (by decide) d_Mo_checkRec_99 (Nat.le_of_ble_eq_true rfl) _ rfl (fun v1 σ1 hv => ?_)
        obtain ⟨rfl, rfl⟩ := hv
        rw [mbind_eq] at hF hS
        generalize F_Mo_wrong σ 6 (σ.2.2.1 9 x2.toNatClampNeg) = w10 at hF hS ⊢
        refine GW.eqs (st' := []) rfl ?_
        refine GW.subl [1, 3, 0] rfl ?_
        exact w_Mo_checkRec_j102 C hE hr hlocks n w10 x2 (σ.2.2.1 8 x2.toNatClampNeg) Fv hS hF
  · rw [if_pos hc2] at hF hS
    refine g_aload_n C d_Mo_checkRec_12 rfl ?_
    refine g_aload_n C d_Mo_checkRec_13 rfl ?_
    refine m_geta C hE 9 (by decide) (by decide) (by decide) kf_Mo_22 d_Mo_checkRec_14 ?_
    refine g_iload_n C d_Mo_checkRec_17 rfl ?_
    obtain ⟨hi12, hS⟩ := hS
    refine m_ald C hE 9 (by decide) (by decide) hi12 d_Mo_checkRec_18 ?_
    refine g_aload_n C d_Mo_checkRec_19 rfl ?_
    refine m_geta C hE 6 (by decide) (by decide) (by decide) kf_Mo_13 d_Mo_checkRec_20 ?_
    refine g_iload_n C d_Mo_checkRec_23 rfl ?_
    obtain ⟨hi13, hS⟩ := hS
    refine m_ald C hE 6 (by decide) (by decide) hi13 d_Mo_checkRec_24 ?_
    refine g_iload C d_Mo_checkRec_25 rfl ?_
    obtain ⟨hs15, hS⟩ := hS
    refine m_callV (n := 3) (av := [.int (σ.2.2.1 9 x2.toNatClampNeg), .int (σ.2.2.1 6 x2.toNatClampNeg), .int (σ.2.2.1 8 x2.toNatClampNeg)]) (rest := []) C hE (mc_Mo_intoWith l D cs B dE mo ad n _ _ _ _ hs15) km_Mo_233 kv_Mo_intoWith kl_Mo_intoWith kd_Mo_intoWith ki_Mo ⟨rfl, by decide, by decide, by decide⟩ rfl ⟨rfl, rfl⟩ (by decide) (by decide) d_Mo_checkRec_27 (Nat.le_of_ble_eq_true rfl) _ rfl (fun v1 σ1 hv => ?_)
    obtain ⟨rfl, rfl⟩ := hv
    rw [mbind_eq] at hF hS
    generalize F_Mo_intoWith n σ (σ.2.2.1 9 x2.toNatClampNeg) (σ.2.2.1 6 x2.toNatClampNeg) (σ.2.2.1 8 x2.toNatClampNeg) = w14 at hF hS ⊢
    refine GW.eqs (st' := []) rfl ?_
    refine g_aload_n C d_Mo_checkRec_30 rfl ?_
    refine m_geta C hE 30 (by decide) (by decide) (by decide) kf_Mo_87 d_Mo_checkRec_31 ?_
    refine g_bipush (v := 10) C d_Mo_checkRec_34 (by decide) ?_
    refine g_aload_n C d_Mo_checkRec_36 rfl ?_
    refine m_geti C hE 31 (by decide) (by decide) kf_Mo_220 d_Mo_checkRec_37 ?_
    refine g_iconst (v := 1) C d_Mo_checkRec_40 (by decide) ?_
    refine g_isub C d_Mo_checkRec_41 ?_
    refine g_imul C d_Mo_checkRec_42 ?_
    refine g_aload_n C d_Mo_checkRec_43 rfl ?_
    refine m_geta C hE 7 (by decide) (by decide) (by decide) kf_Mo_16 d_Mo_checkRec_44 ?_
    refine g_iload_n C d_Mo_checkRec_47 rfl ?_
    obtain ⟨hi16, hS⟩ := hS
    refine m_ald C hE 7 (by decide) (by decide) hi16 d_Mo_checkRec_48 ?_
    refine g_iadd C d_Mo_checkRec_49 ?_
    refine g_aload_n C d_Mo_checkRec_50 rfl ?_
    refine m_geta C hE 20 (by decide) (by decide) (by decide) kf_Mo_55 d_Mo_checkRec_51 ?_
    refine g_iload C d_Mo_checkRec_54 rfl ?_
    obtain ⟨hi17, hS⟩ := hS
    refine m_ald C hE 20 (by decide) (by decide) hi17 d_Mo_checkRec_56 ?_
    obtain ⟨hi18, hS⟩ := hS
    refine m_ast C hE 30 (by decide) (by decide) hi18 d_Mo_checkRec_57 ?_
    refine g_goto C 164 d_Mo_checkRec_58 (by decide) ?_
    exact m_vret C hr hlocks d_Mo_checkRec_164 (by rw [← hF]; exact ⟨rfl, rfl⟩)
def F_Mo_checkIf_j42 (n : Nat) (σ : mSt) (x1 : Int32) (x2 : Int32) : mSt := mbind (F_Mo_into n (mo_ai σ 29 x1.toNatClampNeg (σ.1 33)) ((mo_ai σ 29 x1.toNatClampNeg (σ.1 33)).2.2.1 10 x2.toNatClampNeg)) (fun w24 => w24)
def S_Mo_checkIf_j42 (n : Nat) (σ : mSt) (x1 : Int32) (x2 : Int32) : Prop := (vp_in x1 45) ∧ ((vp_in x2 200) ∧ ((S_Mo_into n (mo_ai σ 29 x1.toNatClampNeg (σ.1 33)) ((mo_ai σ 29 x1.toNatClampNeg (σ.1 33)).2.2.1 10 x2.toNatClampNeg)) ∧ (mbind (F_Mo_into n (mo_ai σ 29 x1.toNatClampNeg (σ.1 33)) ((mo_ai σ 29 x1.toNatClampNeg (σ.1 33)).2.2.1 10 x2.toNatClampNeg)) (fun w24 => True))))
set_option maxRecDepth 100000 in
set_option maxHeartbeats 4000000 in
theorem w_Mo_checkIf_j42 {p : Program} {l : Launch} {e : Env} {s : State} {m : MethodId} {args : Array Value} {below : List Frame} {meth : Method} {c : Code} {D : va_G} {cs : Nat → ClassId} {B : Nat} {dE : Nat × Nat} {mo : Nat} {ad : Nat → Nat} {M0 : gMem} (C : CallFix p m c c_Mo_checkIf 4 s args gT R_Mo) (hE : gEnv D gcl (gtys cs) gz B dE s) (hr : meth.sig.returnType = none) (hlocks : meth.locks = false) (n : Nat) (σ : mSt) (x1 : Int32) (x2 : Int32) (Fv : mSt) (hS : S_Mo_checkIf_j42 n σ x1 x2) (hF : F_Mo_checkIf_j42 n σ x1 x2 = Fv) : GW p l e ({ frames := 1, cells := 0, slots := 0, locals := 23 } : Room) s m args below meth c 4 (gA B) (mQ below D cs B mo ad M0 (fun r σ' => r = none ∧ σ' = Fv) args s) (mo_P D B cs mo ad M0 σ) 0 0 42 [(0, .ref mo), (1, .int x1), (2, .int x2)] [] := by
  unfold F_Mo_checkIf_j42 at hF
  unfold S_Mo_checkIf_j42 at hS
  refine g_aload_n C d_Mo_checkIf_42 rfl ?_
  refine m_geta C hE 29 (by decide) (by decide) (by decide) kf_Mo_84 d_Mo_checkIf_43 ?_
  refine g_iload_n C d_Mo_checkIf_46 rfl ?_
  refine g_aload_n C d_Mo_checkIf_47 rfl ?_
  refine m_geti C hE 33 (by decide) (by decide) kf_Mo_230 d_Mo_checkIf_48 ?_
  obtain ⟨hi22, hS⟩ := hS
  refine m_ast C hE 29 (by decide) (by decide) hi22 d_Mo_checkIf_51 ?_
  refine g_aload_n C d_Mo_checkIf_52 rfl ?_
  refine g_aload_n C d_Mo_checkIf_53 rfl ?_
  refine m_geta C hE 10 (by decide) (by decide) (by decide) kf_Mo_25 d_Mo_checkIf_54 ?_
  refine g_iload_n C d_Mo_checkIf_57 rfl ?_
  obtain ⟨hi23, hS⟩ := hS
  refine m_ald C hE 10 (by decide) (by decide) hi23 d_Mo_checkIf_58 ?_
  obtain ⟨hs25, hS⟩ := hS
  refine m_callV (n := 1) (av := [.int ((mo_ai σ 29 x1.toNatClampNeg (σ.1 33)).2.2.1 10 x2.toNatClampNeg)]) (rest := []) C hE (mc_Mo_into l D cs B dE mo ad n _ _ hs25) km_Mo_223 kv_Mo_into kl_Mo_into kd_Mo_into ki_Mo ⟨rfl, by decide, by decide, by decide⟩ rfl ⟨rfl, rfl⟩ (by decide) (by decide) d_Mo_checkIf_59 (Nat.le_of_ble_eq_true rfl) _ rfl (fun v1 σ1 hv => ?_)
  obtain ⟨rfl, rfl⟩ := hv
  rw [mbind_eq] at hF hS
  generalize F_Mo_into n (mo_ai σ 29 x1.toNatClampNeg (σ.1 33)) ((mo_ai σ 29 x1.toNatClampNeg (σ.1 33)).2.2.1 10 x2.toNatClampNeg) = w24 at hF hS ⊢
  refine GW.eqs (st' := []) rfl ?_
  refine g_goto C 152 d_Mo_checkIf_62 (by decide) ?_
  exact m_vret C hr hlocks d_Mo_checkIf_152 (by rw [← hF]; exact ⟨rfl, rfl⟩)
def F_Mo_checkIf_j131 (n : Nat) (σ : mSt) (x1 : Int32) : mSt := mbind (F_Mo_ends σ (σ.2.2.1 28 x1.toNatClampNeg) ((σ.2.2.1 29 x1.toNatClampNeg) ||| (σ.1 33))) (fun w28 => w28)
def S_Mo_checkIf_j131 (n : Nat) (σ : mSt) (x1 : Int32) : Prop := (vp_in x1 45) ∧ ((vp_in x1 45) ∧ ((S_Mo_ends σ (σ.2.2.1 28 x1.toNatClampNeg) ((σ.2.2.1 29 x1.toNatClampNeg) ||| (σ.1 33))) ∧ (mbind (F_Mo_ends σ (σ.2.2.1 28 x1.toNatClampNeg) ((σ.2.2.1 29 x1.toNatClampNeg) ||| (σ.1 33))) (fun w28 => True))))
set_option maxRecDepth 100000 in
set_option maxHeartbeats 4000000 in
theorem w_Mo_checkIf_j131 {p : Program} {l : Launch} {e : Env} {s : State} {m : MethodId} {args : Array Value} {below : List Frame} {meth : Method} {c : Code} {D : va_G} {cs : Nat → ClassId} {B : Nat} {dE : Nat × Nat} {mo : Nat} {ad : Nat → Nat} {M0 : gMem} (C : CallFix p m c c_Mo_checkIf 4 s args gT R_Mo) (hE : gEnv D gcl (gtys cs) gz B dE s) (hr : meth.sig.returnType = none) (hlocks : meth.locks = false) (n : Nat) (σ : mSt) (x1 : Int32) (Fv : mSt) (hS : S_Mo_checkIf_j131 n σ x1) (hF : F_Mo_checkIf_j131 n σ x1 = Fv) : GW p l e ({ frames := 1, cells := 0, slots := 0, locals := 23 } : Room) s m args below meth c 4 (gA B) (mQ below D cs B mo ad M0 (fun r σ' => r = none ∧ σ' = Fv) args s) (mo_P D B cs mo ad M0 σ) 0 0 131 [(0, .ref mo), (1, .int x1)] [] := by
  unfold F_Mo_checkIf_j131 at hF
  unfold S_Mo_checkIf_j131 at hS
  refine g_aload_n C d_Mo_checkIf_131 rfl ?_
  refine g_aload_n C d_Mo_checkIf_132 rfl ?_
  refine m_geta C hE 28 (by decide) (by decide) (by decide) kf_Mo_81 d_Mo_checkIf_133 ?_
  refine g_iload_n C d_Mo_checkIf_136 rfl ?_
  obtain ⟨hi26, hS⟩ := hS
  refine m_ald C hE 28 (by decide) (by decide) hi26 d_Mo_checkIf_137 ?_
  refine g_aload_n C d_Mo_checkIf_138 rfl ?_
  refine m_geta C hE 29 (by decide) (by decide) (by decide) kf_Mo_84 d_Mo_checkIf_139 ?_
  refine g_iload_n C d_Mo_checkIf_142 rfl ?_
  obtain ⟨hi27, hS⟩ := hS
  refine m_ald C hE 29 (by decide) (by decide) hi27 d_Mo_checkIf_143 ?_
  refine g_aload_n C d_Mo_checkIf_144 rfl ?_
  refine m_geti C hE 33 (by decide) (by decide) kf_Mo_230 d_Mo_checkIf_145 ?_
  refine g_ior C d_Mo_checkIf_148 ?_
  obtain ⟨hs29, hS⟩ := hS
  refine m_callV (n := 2) (av := [.int (σ.2.2.1 28 x1.toNatClampNeg), .int ((σ.2.2.1 29 x1.toNatClampNeg) ||| (σ.1 33))]) (rest := []) C hE (mc_Mo_ends l D cs B dE mo ad _ _ _ hs29) km_Mo_240 kv_Mo_ends kl_Mo_ends kd_Mo_ends ki_Mo ⟨rfl, by decide, by decide, by decide⟩ rfl ⟨rfl, rfl⟩ (by decide) (by decide) d_Mo_checkIf_149 (Nat.le_of_ble_eq_true rfl) _ rfl (fun v1 σ1 hv => ?_)
  obtain ⟨rfl, rfl⟩ := hv
  rw [mbind_eq] at hF hS
  generalize F_Mo_ends σ (σ.2.2.1 28 x1.toNatClampNeg) ((σ.2.2.1 29 x1.toNatClampNeg) ||| (σ.1 33)) = w28 at hF hS ⊢
  refine GW.eqs (st' := []) rfl ?_
  exact m_vret C hr hlocks d_Mo_checkIf_152 (by rw [← hF]; exact ⟨rfl, rfl⟩)
def F_Mo_checkIf (n : Nat) (σ : mSt) (x1 : Int32) (x2 : Int32) (x3 : Int32) : mSt := if x3 = 0 then (mbind (F_Mo_into n σ (σ.2.2.1 9 x2.toNatClampNeg)) (fun w20 => w20)) else (if x3 = 1 then (if (σ.1 32) = 1 then (F_Mo_checkIf_j42 n σ x1 x2) else (mbind (F_Mo_wrong σ 6 (σ.2.2.1 9 x2.toNatClampNeg)) (fun w17 => F_Mo_checkIf_j42 n w17 x1 x2))) else (if x3 = 2 then (mbind (F_Mo_into n (mo_ai (mo_ai σ 28 x1.toNatClampNeg (σ.1 32)) 29 x1.toNatClampNeg (((mo_ai σ 28 x1.toNatClampNeg (σ.1 32)).2.2.1 29 x1.toNatClampNeg) ||| ((mo_ai σ 28 x1.toNatClampNeg (σ.1 32)).1 33))) ((mo_ai (mo_ai σ 28 x1.toNatClampNeg (σ.1 32)) 29 x1.toNatClampNeg (((mo_ai σ 28 x1.toNatClampNeg (σ.1 32)).2.2.1 29 x1.toNatClampNeg) ||| ((mo_ai σ 28 x1.toNatClampNeg (σ.1 32)).1 33))).2.2.1 11 x2.toNatClampNeg)) (fun w13 => w13)) else (if (σ.1 32) = (σ.2.2.1 28 x1.toNatClampNeg) then (F_Mo_checkIf_j131 n σ x1) else (mbind (F_Mo_wrong σ 6 (σ.2.2.1 11 x2.toNatClampNeg)) (fun w7 => F_Mo_checkIf_j131 n w7 x1)))))
def S_Mo_checkIf (n : Nat) (σ : mSt) (x1 : Int32) (x2 : Int32) (x3 : Int32) : Prop := if x3 = 0 then ((vp_in x2 200) ∧ ((S_Mo_into n σ (σ.2.2.1 9 x2.toNatClampNeg)) ∧ (mbind (F_Mo_into n σ (σ.2.2.1 9 x2.toNatClampNeg)) (fun w20 => True)))) else (if x3 = 1 then (if (σ.1 32) = 1 then (S_Mo_checkIf_j42 n σ x1 x2) else ((vp_in x2 200) ∧ ((S_Mo_wrong σ 6 (σ.2.2.1 9 x2.toNatClampNeg)) ∧ (mbind (F_Mo_wrong σ 6 (σ.2.2.1 9 x2.toNatClampNeg)) (fun w17 => S_Mo_checkIf_j42 n w17 x1 x2))))) else (if x3 = 2 then ((vp_in x1 45) ∧ ((vp_in x1 45) ∧ ((vp_in x1 45) ∧ ((vp_in x2 200) ∧ ((S_Mo_into n (mo_ai (mo_ai σ 28 x1.toNatClampNeg (σ.1 32)) 29 x1.toNatClampNeg (((mo_ai σ 28 x1.toNatClampNeg (σ.1 32)).2.2.1 29 x1.toNatClampNeg) ||| ((mo_ai σ 28 x1.toNatClampNeg (σ.1 32)).1 33))) ((mo_ai (mo_ai σ 28 x1.toNatClampNeg (σ.1 32)) 29 x1.toNatClampNeg (((mo_ai σ 28 x1.toNatClampNeg (σ.1 32)).2.2.1 29 x1.toNatClampNeg) ||| ((mo_ai σ 28 x1.toNatClampNeg (σ.1 32)).1 33))).2.2.1 11 x2.toNatClampNeg)) ∧ (mbind (F_Mo_into n (mo_ai (mo_ai σ 28 x1.toNatClampNeg (σ.1 32)) 29 x1.toNatClampNeg (((mo_ai σ 28 x1.toNatClampNeg (σ.1 32)).2.2.1 29 x1.toNatClampNeg) ||| ((mo_ai σ 28 x1.toNatClampNeg (σ.1 32)).1 33))) ((mo_ai (mo_ai σ 28 x1.toNatClampNeg (σ.1 32)) 29 x1.toNatClampNeg (((mo_ai σ 28 x1.toNatClampNeg (σ.1 32)).2.2.1 29 x1.toNatClampNeg) ||| ((mo_ai σ 28 x1.toNatClampNeg (σ.1 32)).1 33))).2.2.1 11 x2.toNatClampNeg)) (fun w13 => True))))))) else ((vp_in x1 45) ∧ (if (σ.1 32) = (σ.2.2.1 28 x1.toNatClampNeg) then (S_Mo_checkIf_j131 n σ x1) else ((vp_in x2 200) ∧ ((S_Mo_wrong σ 6 (σ.2.2.1 11 x2.toNatClampNeg)) ∧ (mbind (F_Mo_wrong σ 6 (σ.2.2.1 11 x2.toNatClampNeg)) (fun w7 => S_Mo_checkIf_j131 n w7 x1))))))))
set_option maxRecDepth 100000 in
set_option maxHeartbeats 4000000 in
theorem mc_Mo_checkIf (l : Launch) (D : va_G) (cs : Nat → ClassId) (B : Nat) (dE : Nat × Nat) (mo : Nat) (ad : Nat → Nat) (n : Nat) (σ : mSt) (x1 : Int32) (x2 : Int32) (x3 : Int32) (hS : S_Mo_checkIf n σ x1 x2 x3) : mMet l y_Mo_checkIf (Cond.code y_Mo_checkIf c_Mo_checkIf 4 none) ({ frames := 1, cells := 0, slots := 0, locals := 23 } : Room) D cs B dE mo ad [.ref mo, .int x1, .int x2, .int x3] σ (fun r σ' => r = none ∧ σ' = F_Mo_checkIf n σ x1 x2 x3) := by
  refine mMet.ofW (by decide) rfl (Nat.le_of_ble_eq_true rfl) (lv0 := [(0, .ref mo), (1, .int x1), (2, .int x2), (3, .int x3)]) rfl ?_
  intro p e s m args below meth c M0 C hE hr hlocks
  generalize hF : F_Mo_checkIf n σ x1 x2 x3 = Fv
  unfold F_Mo_checkIf at hF
  unfold S_Mo_checkIf at hS
  refine g_iload_n C d_Mo_checkIf_0 rfl ?_
  refine g_if_ne C 17 d_Mo_checkIf_1 (by decide) (fun hc1 => ?_) (fun hc1 => ?_)
  · rw [if_neg hc1] at hF hS
    refine g_iload_n C d_Mo_checkIf_17 rfl ?_
    refine g_iconst (v := 1) C d_Mo_checkIf_18 (by decide) ?_
    refine g_icmp_ne C 65 d_Mo_checkIf_19 (by decide) (fun hc2 => ?_) (fun hc2 => ?_)
    · rw [if_neg hc2] at hF hS
      refine g_iload_n C d_Mo_checkIf_65 rfl ?_
      refine g_iconst (v := 2) C d_Mo_checkIf_66 (by decide) ?_
      refine g_icmp_ne C 106 d_Mo_checkIf_67 (by decide) (fun hc3 => ?_) (fun hc3 => ?_)
      · rw [if_neg hc3] at hF hS
        refine g_aload_n C d_Mo_checkIf_106 rfl ?_
        refine m_geti C hE 32 (by decide) (by decide) kf_Mo_227 d_Mo_checkIf_107 ?_
        refine g_aload_n C d_Mo_checkIf_110 rfl ?_
        refine m_geta C hE 28 (by decide) (by decide) (by decide) kf_Mo_81 d_Mo_checkIf_111 ?_
        refine g_iload_n C d_Mo_checkIf_114 rfl ?_
        obtain ⟨hi4, hS⟩ := hS
        refine m_ald C hE 28 (by decide) (by decide) hi4 d_Mo_checkIf_115 ?_
        refine g_icmp_eq C 131 d_Mo_checkIf_116 (by decide) (fun hc5 => ?_) (fun hc5 => ?_)
        · rw [if_pos hc5] at hF hS
          refine GW.subl [0, 1] rfl ?_
          exact w_Mo_checkIf_j131 C hE hr hlocks n σ x1 Fv hS hF
        · rw [if_neg hc5] at hF hS
          refine g_aload_n C d_Mo_checkIf_119 rfl ?_
          refine g_bipush (v := 6) C d_Mo_checkIf_120 (by decide) ?_
          refine g_aload_n C d_Mo_checkIf_122 rfl ?_
          refine m_geta C hE 11 (by decide) (by decide) (by decide) kf_Mo_28 d_Mo_checkIf_123 ?_
          refine g_iload_n C d_Mo_checkIf_126 rfl ?_
          obtain ⟨hi6, hS⟩ := hS
          refine m_ald C hE 11 (by decide) (by decide) hi6 d_Mo_checkIf_127 ?_
          obtain ⟨hs8, hS⟩ := hS
          refine m_callV (n := 2) (av := [.int 6, .int (σ.2.2.1 11 x2.toNatClampNeg)]) (rest := []) C hE (mc_Mo_wrong l D cs B dE mo ad _ _ _ hs8) km_Mo_237 kv_Mo_wrong kl_Mo_wrong kd_Mo_wrong ki_Mo ⟨rfl, by decide, by decide, by decide⟩ rfl ⟨rfl, rfl⟩ (by decide) (by decide) d_Mo_checkIf_128 (Nat.le_of_ble_eq_true rfl) _ rfl (fun v1 σ1 hv => ?_)
          obtain ⟨rfl, rfl⟩ := hv
          rw [mbind_eq] at hF hS
          generalize F_Mo_wrong σ 6 (σ.2.2.1 11 x2.toNatClampNeg) = w7 at hF hS ⊢
          refine GW.eqs (st' := []) rfl ?_
          refine GW.subl [0, 1] rfl ?_
          exact w_Mo_checkIf_j131 C hE hr hlocks n w7 x1 Fv hS hF
      · rw [if_pos hc3] at hF hS
        refine g_aload_n C d_Mo_checkIf_70 rfl ?_
        refine m_geta C hE 28 (by decide) (by decide) (by decide) kf_Mo_81 d_Mo_checkIf_71 ?_
        refine g_iload_n C d_Mo_checkIf_74 rfl ?_
        refine g_aload_n C d_Mo_checkIf_75 rfl ?_
        refine m_geti C hE 32 (by decide) (by decide) kf_Mo_227 d_Mo_checkIf_76 ?_
        obtain ⟨hi9, hS⟩ := hS
        refine m_ast C hE 28 (by decide) (by decide) hi9 d_Mo_checkIf_79 ?_
        refine g_aload_n C d_Mo_checkIf_80 rfl ?_
        refine m_geta C hE 29 (by decide) (by decide) (by decide) kf_Mo_84 d_Mo_checkIf_81 ?_
        refine g_iload_n C d_Mo_checkIf_84 rfl ?_
        refine g_dup2_11 C d_Mo_checkIf_85 rfl rfl ?_
        obtain ⟨hi10, hS⟩ := hS
        refine m_ald C hE 29 (by decide) (by decide) hi10 d_Mo_checkIf_86 ?_
        refine g_aload_n C d_Mo_checkIf_87 rfl ?_
        refine m_geti C hE 33 (by decide) (by decide) kf_Mo_230 d_Mo_checkIf_88 ?_
        refine g_ior C d_Mo_checkIf_91 ?_
        obtain ⟨hi11, hS⟩ := hS
        refine m_ast C hE 29 (by decide) (by decide) hi11 d_Mo_checkIf_92 ?_
        refine g_aload_n C d_Mo_checkIf_93 rfl ?_
        refine g_aload_n C d_Mo_checkIf_94 rfl ?_
        refine m_geta C hE 11 (by decide) (by decide) (by decide) kf_Mo_28 d_Mo_checkIf_95 ?_
        refine g_iload_n C d_Mo_checkIf_98 rfl ?_
        obtain ⟨hi12, hS⟩ := hS
        refine m_ald C hE 11 (by decide) (by decide) hi12 d_Mo_checkIf_99 ?_
        obtain ⟨hs14, hS⟩ := hS
        refine m_callV (n := 1) (av := [.int ((mo_ai (mo_ai σ 28 x1.toNatClampNeg (σ.1 32)) 29 x1.toNatClampNeg (((mo_ai σ 28 x1.toNatClampNeg (σ.1 32)).2.2.1 29 x1.toNatClampNeg) ||| ((mo_ai σ 28 x1.toNatClampNeg (σ.1 32)).1 33))).2.2.1 11 x2.toNatClampNeg)]) (rest := []) C hE (mc_Mo_into l D cs B dE mo ad n _ _ hs14) km_Mo_223 kv_Mo_into kl_Mo_into kd_Mo_into ki_Mo ⟨rfl, by decide, by decide, by decide⟩ rfl ⟨rfl, rfl⟩ (by decide) (by decide) d_Mo_checkIf_100 (Nat.le_of_ble_eq_true rfl) _ rfl (fun v1 σ1 hv => ?_)
        obtain ⟨rfl, rfl⟩ := hv
        rw [mbind_eq] at hF hS
        generalize F_Mo_into n (mo_ai (mo_ai σ 28 x1.toNatClampNeg (σ.1 32)) 29 x1.toNatClampNeg (((mo_ai σ 28 x1.toNatClampNeg (σ.1 32)).2.2.1 29 x1.toNatClampNeg) ||| ((mo_ai σ 28 x1.toNatClampNeg (σ.1 32)).1 33))) ((mo_ai (mo_ai σ 28 x1.toNatClampNeg (σ.1 32)) 29 x1.toNatClampNeg (((mo_ai σ 28 x1.toNatClampNeg (σ.1 32)).2.2.1 29 x1.toNatClampNeg) ||| ((mo_ai σ 28 x1.toNatClampNeg (σ.1 32)).1 33))).2.2.1 11 x2.toNatClampNeg) = w13 at hF hS ⊢
        refine GW.eqs (st' := []) rfl ?_
        refine g_goto C 152 d_Mo_checkIf_103 (by decide) ?_
        exact m_vret C hr hlocks d_Mo_checkIf_152 (by rw [← hF]; exact ⟨rfl, rfl⟩)
    · rw [if_pos hc2] at hF hS
      refine g_aload_n C d_Mo_checkIf_22 rfl ?_
      refine m_geti C hE 32 (by decide) (by decide) kf_Mo_227 d_Mo_checkIf_23 ?_
      refine g_iconst (v := 1) C d_Mo_checkIf_26 (by decide) ?_
      refine g_icmp_eq C 42 d_Mo_checkIf_27 (by decide) (fun hc15 => ?_) (fun hc15 => ?_)
      · rw [if_pos hc15] at hF hS
        refine GW.subl [0, 1, 2] rfl ?_
        exact w_Mo_checkIf_j42 C hE hr hlocks n σ x1 x2 Fv hS hF
      · rw [if_neg hc15] at hF hS
        refine g_aload_n C d_Mo_checkIf_30 rfl ?_
        refine g_bipush (v := 6) C d_Mo_checkIf_31 (by decide) ?_
        refine g_aload_n C d_Mo_checkIf_33 rfl ?_
        refine m_geta C hE 9 (by decide) (by decide) (by decide) kf_Mo_22 d_Mo_checkIf_34 ?_
        refine g_iload_n C d_Mo_checkIf_37 rfl ?_
        obtain ⟨hi16, hS⟩ := hS
        refine m_ald C hE 9 (by decide) (by decide) hi16 d_Mo_checkIf_38 ?_
        obtain ⟨hs18, hS⟩ := hS
        refine m_callV (n := 2) (av := [.int 6, .int (σ.2.2.1 9 x2.toNatClampNeg)]) (rest := []) C hE (mc_Mo_wrong l D cs B dE mo ad _ _ _ hs18) km_Mo_237 kv_Mo_wrong kl_Mo_wrong kd_Mo_wrong ki_Mo ⟨rfl, by decide, by decide, by decide⟩ rfl ⟨rfl, rfl⟩ (by decide) (by decide) d_Mo_checkIf_39 (Nat.le_of_ble_eq_true rfl) _ rfl (fun v1 σ1 hv => ?_)
        obtain ⟨rfl, rfl⟩ := hv
        rw [mbind_eq] at hF hS
        generalize F_Mo_wrong σ 6 (σ.2.2.1 9 x2.toNatClampNeg) = w17 at hF hS ⊢
        refine GW.eqs (st' := []) rfl ?_
        refine GW.subl [0, 1, 2] rfl ?_
        exact w_Mo_checkIf_j42 C hE hr hlocks n w17 x1 x2 Fv hS hF
  · rw [if_pos hc1] at hF hS
    refine g_aload_n C d_Mo_checkIf_4 rfl ?_
    refine g_aload_n C d_Mo_checkIf_5 rfl ?_
    refine m_geta C hE 9 (by decide) (by decide) (by decide) kf_Mo_22 d_Mo_checkIf_6 ?_
    refine g_iload_n C d_Mo_checkIf_9 rfl ?_
    obtain ⟨hi19, hS⟩ := hS
    refine m_ald C hE 9 (by decide) (by decide) hi19 d_Mo_checkIf_10 ?_
    obtain ⟨hs21, hS⟩ := hS
    refine m_callV (n := 1) (av := [.int (σ.2.2.1 9 x2.toNatClampNeg)]) (rest := []) C hE (mc_Mo_into l D cs B dE mo ad n _ _ hs21) km_Mo_223 kv_Mo_into kl_Mo_into kd_Mo_into ki_Mo ⟨rfl, by decide, by decide, by decide⟩ rfl ⟨rfl, rfl⟩ (by decide) (by decide) d_Mo_checkIf_11 (Nat.le_of_ble_eq_true rfl) _ rfl (fun v1 σ1 hv => ?_)
    obtain ⟨rfl, rfl⟩ := hv
    rw [mbind_eq] at hF hS
    generalize F_Mo_into n σ (σ.2.2.1 9 x2.toNatClampNeg) = w20 at hF hS ⊢
    refine GW.eqs (st' := []) rfl ?_
    refine g_goto C 152 d_Mo_checkIf_14 (by decide) ?_
    exact m_vret C hr hlocks d_Mo_checkIf_152 (by rw [← hF]; exact ⟨rfl, rfl⟩)
def F_Mo_checkTwo_j107 (n : Nat) (σ : mSt) (x1 : Int32) (z0 : Int32) : mSt := mbind (F_Mo_ends σ z0 ((σ.2.2.1 29 x1.toNatClampNeg) ||| (σ.1 33))) (fun w23 => w23)
def S_Mo_checkTwo_j107 (n : Nat) (σ : mSt) (x1 : Int32) (z0 : Int32) : Prop := (vp_in x1 45) ∧ ((S_Mo_ends σ z0 ((σ.2.2.1 29 x1.toNatClampNeg) ||| (σ.1 33))) ∧ (mbind (F_Mo_ends σ z0 ((σ.2.2.1 29 x1.toNatClampNeg) ||| (σ.1 33))) (fun w23 => True)))
set_option maxRecDepth 100000 in
set_option maxHeartbeats 4000000 in
theorem w_Mo_checkTwo_j107 {p : Program} {l : Launch} {e : Env} {s : State} {m : MethodId} {args : Array Value} {below : List Frame} {meth : Method} {c : Code} {D : va_G} {cs : Nat → ClassId} {B : Nat} {dE : Nat × Nat} {mo : Nat} {ad : Nat → Nat} {M0 : gMem} (C : CallFix p m c c_Mo_checkTwo 4 s args gT R_Mo) (hE : gEnv D gcl (gtys cs) gz B dE s) (hr : meth.sig.returnType = none) (hlocks : meth.locks = false) (n : Nat) (σ : mSt) (x1 : Int32) (z0 : Int32) (Fv : mSt) (hS : S_Mo_checkTwo_j107 n σ x1 z0) (hF : F_Mo_checkTwo_j107 n σ x1 z0 = Fv) : GW p l e ({ frames := 1, cells := 0, slots := 0, locals := 23 } : Room) s m args below meth c 4 (gA B) (mQ below D cs B mo ad M0 (fun r σ' => r = none ∧ σ' = Fv) args s) (mo_P D B cs mo ad M0 σ) 0 0 107 [(0, .ref mo), (1, .int x1)] [.int z0, .ref mo] := by
  unfold F_Mo_checkTwo_j107 at hF
  unfold S_Mo_checkTwo_j107 at hS
  refine g_aload_n C d_Mo_checkTwo_107 rfl ?_
  refine m_geta C hE 29 (by decide) (by decide) (by decide) kf_Mo_84 d_Mo_checkTwo_108 ?_
  refine g_iload_n C d_Mo_checkTwo_111 rfl ?_
  obtain ⟨hi22, hS⟩ := hS
  refine m_ald C hE 29 (by decide) (by decide) hi22 d_Mo_checkTwo_112 ?_
  refine g_aload_n C d_Mo_checkTwo_113 rfl ?_
  refine m_geti C hE 33 (by decide) (by decide) kf_Mo_230 d_Mo_checkTwo_114 ?_
  refine g_ior C d_Mo_checkTwo_117 ?_
  obtain ⟨hs24, hS⟩ := hS
  refine m_callV (n := 2) (av := [.int z0, .int ((σ.2.2.1 29 x1.toNatClampNeg) ||| (σ.1 33))]) (rest := []) C hE (mc_Mo_ends l D cs B dE mo ad _ _ _ hs24) km_Mo_240 kv_Mo_ends kl_Mo_ends kd_Mo_ends ki_Mo ⟨rfl, by decide, by decide, by decide⟩ rfl ⟨rfl, rfl⟩ (by decide) (by decide) d_Mo_checkTwo_118 (Nat.le_of_ble_eq_true rfl) _ rfl (fun v1 σ1 hv => ?_)
  obtain ⟨rfl, rfl⟩ := hv
  rw [mbind_eq] at hF hS
  generalize F_Mo_ends σ z0 ((σ.2.2.1 29 x1.toNatClampNeg) ||| (σ.1 33)) = w23 at hF hS ⊢
  refine GW.eqs (st' := []) rfl ?_
  exact m_vret C hr hlocks d_Mo_checkTwo_121 (by rw [← hF]; exact ⟨rfl, rfl⟩)
def F_Mo_checkTwo_j91 (n : Nat) (σ : mSt) (x1 : Int32) (x2 : Int32) : mSt := if 3 ≤ (σ.2.2.1 6 x2.toNatClampNeg) then (F_Mo_checkTwo_j107 n σ x1 1) else (F_Mo_checkTwo_j107 n σ x1 0)
def S_Mo_checkTwo_j91 (n : Nat) (σ : mSt) (x1 : Int32) (x2 : Int32) : Prop := (vp_in x2 200) ∧ (if 3 ≤ (σ.2.2.1 6 x2.toNatClampNeg) then (S_Mo_checkTwo_j107 n σ x1 1) else (S_Mo_checkTwo_j107 n σ x1 0))
set_option maxRecDepth 100000 in
set_option maxHeartbeats 4000000 in
theorem w_Mo_checkTwo_j91 {p : Program} {l : Launch} {e : Env} {s : State} {m : MethodId} {args : Array Value} {below : List Frame} {meth : Method} {c : Code} {D : va_G} {cs : Nat → ClassId} {B : Nat} {dE : Nat × Nat} {mo : Nat} {ad : Nat → Nat} {M0 : gMem} (C : CallFix p m c c_Mo_checkTwo 4 s args gT R_Mo) (hE : gEnv D gcl (gtys cs) gz B dE s) (hr : meth.sig.returnType = none) (hlocks : meth.locks = false) (n : Nat) (σ : mSt) (x1 : Int32) (x2 : Int32) (Fv : mSt) (hS : S_Mo_checkTwo_j91 n σ x1 x2) (hF : F_Mo_checkTwo_j91 n σ x1 x2 = Fv) : GW p l e ({ frames := 1, cells := 0, slots := 0, locals := 23 } : Room) s m args below meth c 4 (gA B) (mQ below D cs B mo ad M0 (fun r σ' => r = none ∧ σ' = Fv) args s) (mo_P D B cs mo ad M0 σ) 0 0 91 [(0, .ref mo), (1, .int x1), (2, .int x2)] [] := by
  unfold F_Mo_checkTwo_j91 at hF
  unfold S_Mo_checkTwo_j91 at hS
  refine g_aload_n C d_Mo_checkTwo_91 rfl ?_
  refine g_aload_n C d_Mo_checkTwo_92 rfl ?_
  refine m_geta C hE 6 (by decide) (by decide) (by decide) kf_Mo_13 d_Mo_checkTwo_93 ?_
  refine g_iload_n C d_Mo_checkTwo_96 rfl ?_
  obtain ⟨hi20, hS⟩ := hS
  refine m_ald C hE 6 (by decide) (by decide) hi20 d_Mo_checkTwo_97 ?_
  refine g_iconst (v := 3) C d_Mo_checkTwo_98 (by decide) ?_
  refine g_icmp_ge C 106 d_Mo_checkTwo_99 (by decide) (fun hc21 => ?_) (fun hc21 => ?_)
  · rw [if_pos hc21] at hF hS
    refine g_iconst (v := 1) C d_Mo_checkTwo_106 (by decide) ?_
    refine GW.subl [0, 1] rfl ?_
    exact w_Mo_checkTwo_j107 C hE hr hlocks n σ x1 1 Fv hS hF
  · rw [if_neg hc21] at hF hS
    refine g_iconst (v := 0) C d_Mo_checkTwo_102 (by decide) ?_
    refine g_goto C 107 d_Mo_checkTwo_103 (by decide) ?_
    refine GW.subl [0, 1] rfl ?_
    exact w_Mo_checkTwo_j107 C hE hr hlocks n σ x1 0 Fv hS hF
def F_Mo_checkTwo_j72 (n : Nat) (σ : mSt) (x1 : Int32) (x2 : Int32) : mSt := if (σ.1 32) = 0 then (F_Mo_checkTwo_j91 n σ x1 x2) else (mbind (F_Mo_wrong σ 6 (σ.2.2.1 10 x2.toNatClampNeg)) (fun w18 => F_Mo_checkTwo_j91 n w18 x1 x2))
def S_Mo_checkTwo_j72 (n : Nat) (σ : mSt) (x1 : Int32) (x2 : Int32) : Prop := if (σ.1 32) = 0 then (S_Mo_checkTwo_j91 n σ x1 x2) else ((vp_in x2 200) ∧ ((S_Mo_wrong σ 6 (σ.2.2.1 10 x2.toNatClampNeg)) ∧ (mbind (F_Mo_wrong σ 6 (σ.2.2.1 10 x2.toNatClampNeg)) (fun w18 => S_Mo_checkTwo_j91 n w18 x1 x2))))
set_option maxRecDepth 100000 in
set_option maxHeartbeats 4000000 in
theorem w_Mo_checkTwo_j72 {p : Program} {l : Launch} {e : Env} {s : State} {m : MethodId} {args : Array Value} {below : List Frame} {meth : Method} {c : Code} {D : va_G} {cs : Nat → ClassId} {B : Nat} {dE : Nat × Nat} {mo : Nat} {ad : Nat → Nat} {M0 : gMem} (C : CallFix p m c c_Mo_checkTwo 4 s args gT R_Mo) (hE : gEnv D gcl (gtys cs) gz B dE s) (hr : meth.sig.returnType = none) (hlocks : meth.locks = false) (n : Nat) (σ : mSt) (x1 : Int32) (x2 : Int32) (Fv : mSt) (hS : S_Mo_checkTwo_j72 n σ x1 x2) (hF : F_Mo_checkTwo_j72 n σ x1 x2 = Fv) : GW p l e ({ frames := 1, cells := 0, slots := 0, locals := 23 } : Room) s m args below meth c 4 (gA B) (mQ below D cs B mo ad M0 (fun r σ' => r = none ∧ σ' = Fv) args s) (mo_P D B cs mo ad M0 σ) 0 0 72 [(0, .ref mo), (1, .int x1), (2, .int x2)] [] := by
  unfold F_Mo_checkTwo_j72 at hF
  unfold S_Mo_checkTwo_j72 at hS
  refine g_aload_n C d_Mo_checkTwo_72 rfl ?_
  refine m_geti C hE 32 (by decide) (by decide) kf_Mo_227 d_Mo_checkTwo_73 ?_
  refine g_if_eq C 91 d_Mo_checkTwo_76 (by decide) (fun hc16 => ?_) (fun hc16 => ?_)
  · rw [if_pos hc16] at hF hS
    refine GW.subl [0, 1, 2] rfl ?_
    exact w_Mo_checkTwo_j91 C hE hr hlocks n σ x1 x2 Fv hS hF
  · rw [if_neg hc16] at hF hS
    refine g_aload_n C d_Mo_checkTwo_79 rfl ?_
    refine g_bipush (v := 6) C d_Mo_checkTwo_80 (by decide) ?_
    refine g_aload_n C d_Mo_checkTwo_82 rfl ?_
    refine m_geta C hE 10 (by decide) (by decide) (by decide) kf_Mo_25 d_Mo_checkTwo_83 ?_
    refine g_iload_n C d_Mo_checkTwo_86 rfl ?_
    obtain ⟨hi17, hS⟩ := hS
    refine m_ald C hE 10 (by decide) (by decide) hi17 d_Mo_checkTwo_87 ?_
    obtain ⟨hs19, hS⟩ := hS
    refine m_callV (n := 2) (av := [.int 6, .int (σ.2.2.1 10 x2.toNatClampNeg)]) (rest := []) C hE (mc_Mo_wrong l D cs B dE mo ad _ _ _ hs19) km_Mo_237 kv_Mo_wrong kl_Mo_wrong kd_Mo_wrong ki_Mo ⟨rfl, by decide, by decide, by decide⟩ rfl ⟨rfl, rfl⟩ (by decide) (by decide) d_Mo_checkTwo_88 (Nat.le_of_ble_eq_true rfl) _ rfl (fun v1 σ1 hv => ?_)
    obtain ⟨rfl, rfl⟩ := hv
    rw [mbind_eq] at hF hS
    generalize F_Mo_wrong σ 6 (σ.2.2.1 10 x2.toNatClampNeg) = w18 at hF hS ⊢
    refine GW.eqs (st' := []) rfl ?_
    refine GW.subl [0, 1, 2] rfl ?_
    exact w_Mo_checkTwo_j91 C hE hr hlocks n w18 x1 x2 Fv hS hF
def F_Mo_checkTwo (n : Nat) (σ : mSt) (x1 : Int32) (x2 : Int32) (x3 : Int32) : mSt := if x3 = 0 then (mbind (F_Mo_into n σ (σ.2.2.1 9 x2.toNatClampNeg)) (fun w14 => w14)) else (if x3 = 1 then (mbind (F_Mo_into n (mo_ai (mo_ai σ 28 x1.toNatClampNeg (σ.1 32)) 29 x1.toNatClampNeg ((mo_ai σ 28 x1.toNatClampNeg (σ.1 32)).1 33)) ((mo_ai (mo_ai σ 28 x1.toNatClampNeg (σ.1 32)) 29 x1.toNatClampNeg ((mo_ai σ 28 x1.toNatClampNeg (σ.1 32)).1 33)).2.2.1 10 x2.toNatClampNeg)) (fun w11 => w11)) else (if (σ.2.2.1 28 x1.toNatClampNeg) = 0 then (F_Mo_checkTwo_j72 n σ x1 x2) else (mbind (F_Mo_wrong σ 6 (σ.2.2.1 9 x2.toNatClampNeg)) (fun w6 => F_Mo_checkTwo_j72 n w6 x1 x2))))
def S_Mo_checkTwo (n : Nat) (σ : mSt) (x1 : Int32) (x2 : Int32) (x3 : Int32) : Prop := if x3 = 0 then ((vp_in x2 200) ∧ ((S_Mo_into n σ (σ.2.2.1 9 x2.toNatClampNeg)) ∧ (mbind (F_Mo_into n σ (σ.2.2.1 9 x2.toNatClampNeg)) (fun w14 => True)))) else (if x3 = 1 then ((vp_in x1 45) ∧ ((vp_in x1 45) ∧ ((vp_in x2 200) ∧ ((S_Mo_into n (mo_ai (mo_ai σ 28 x1.toNatClampNeg (σ.1 32)) 29 x1.toNatClampNeg ((mo_ai σ 28 x1.toNatClampNeg (σ.1 32)).1 33)) ((mo_ai (mo_ai σ 28 x1.toNatClampNeg (σ.1 32)) 29 x1.toNatClampNeg ((mo_ai σ 28 x1.toNatClampNeg (σ.1 32)).1 33)).2.2.1 10 x2.toNatClampNeg)) ∧ (mbind (F_Mo_into n (mo_ai (mo_ai σ 28 x1.toNatClampNeg (σ.1 32)) 29 x1.toNatClampNeg ((mo_ai σ 28 x1.toNatClampNeg (σ.1 32)).1 33)) ((mo_ai (mo_ai σ 28 x1.toNatClampNeg (σ.1 32)) 29 x1.toNatClampNeg ((mo_ai σ 28 x1.toNatClampNeg (σ.1 32)).1 33)).2.2.1 10 x2.toNatClampNeg)) (fun w11 => True)))))) else ((vp_in x1 45) ∧ (if (σ.2.2.1 28 x1.toNatClampNeg) = 0 then (S_Mo_checkTwo_j72 n σ x1 x2) else ((vp_in x2 200) ∧ ((S_Mo_wrong σ 6 (σ.2.2.1 9 x2.toNatClampNeg)) ∧ (mbind (F_Mo_wrong σ 6 (σ.2.2.1 9 x2.toNatClampNeg)) (fun w6 => S_Mo_checkTwo_j72 n w6 x1 x2)))))))
set_option maxRecDepth 100000 in
set_option maxHeartbeats 4000000 in
theorem mc_Mo_checkTwo (l : Launch) (D : va_G) (cs : Nat → ClassId) (B : Nat) (dE : Nat × Nat) (mo : Nat) (ad : Nat → Nat) (n : Nat) (σ : mSt) (x1 : Int32) (x2 : Int32) (x3 : Int32) (hS : S_Mo_checkTwo n σ x1 x2 x3) : mMet l y_Mo_checkTwo (Cond.code y_Mo_checkTwo c_Mo_checkTwo 4 none) ({ frames := 1, cells := 0, slots := 0, locals := 23 } : Room) D cs B dE mo ad [.ref mo, .int x1, .int x2, .int x3] σ (fun r σ' => r = none ∧ σ' = F_Mo_checkTwo n σ x1 x2 x3) := by
  refine mMet.ofW (by decide) rfl (Nat.le_of_ble_eq_true rfl) (lv0 := [(0, .ref mo), (1, .int x1), (2, .int x2), (3, .int x3)]) rfl ?_
  intro p e s m args below meth c M0 C hE hr hlocks
  generalize hF : F_Mo_checkTwo n σ x1 x2 x3 = Fv
  unfold F_Mo_checkTwo at hF
  unfold S_Mo_checkTwo at hS
  refine g_iload_n C d_Mo_checkTwo_0 rfl ?_
  refine g_if_ne C 15 d_Mo_checkTwo_1 (by decide) (fun hc1 => ?_) (fun hc1 => ?_)
  · rw [if_neg hc1] at hF hS
    refine g_iload_n C d_Mo_checkTwo_15 rfl ?_
    refine g_iconst (v := 1) C d_Mo_checkTwo_16 (by decide) ?_
    refine g_icmp_ne C 51 d_Mo_checkTwo_17 (by decide) (fun hc2 => ?_) (fun hc2 => ?_)
    · rw [if_neg hc2] at hF hS
      refine g_aload_n C d_Mo_checkTwo_51 rfl ?_
      refine m_geta C hE 28 (by decide) (by decide) (by decide) kf_Mo_81 d_Mo_checkTwo_52 ?_
      refine g_iload_n C d_Mo_checkTwo_55 rfl ?_
      obtain ⟨hi3, hS⟩ := hS
      refine m_ald C hE 28 (by decide) (by decide) hi3 d_Mo_checkTwo_56 ?_
      refine g_if_eq C 72 d_Mo_checkTwo_57 (by decide) (fun hc4 => ?_) (fun hc4 => ?_)
      · rw [if_pos hc4] at hF hS
        refine GW.subl [0, 1, 2] rfl ?_
        exact w_Mo_checkTwo_j72 C hE hr hlocks n σ x1 x2 Fv hS hF
      · rw [if_neg hc4] at hF hS
        refine g_aload_n C d_Mo_checkTwo_60 rfl ?_
        refine g_bipush (v := 6) C d_Mo_checkTwo_61 (by decide) ?_
        refine g_aload_n C d_Mo_checkTwo_63 rfl ?_
        refine m_geta C hE 9 (by decide) (by decide) (by decide) kf_Mo_22 d_Mo_checkTwo_64 ?_
        refine g_iload_n C d_Mo_checkTwo_67 rfl ?_
        obtain ⟨hi5, hS⟩ := hS
        refine m_ald C hE 9 (by decide) (by decide) hi5 d_Mo_checkTwo_68 ?_
        obtain ⟨hs7, hS⟩ := hS
        refine m_callV (n := 2) (av := [.int 6, .int (σ.2.2.1 9 x2.toNatClampNeg)]) (rest := []) C hE (mc_Mo_wrong l D cs B dE mo ad _ _ _ hs7) km_Mo_237 kv_Mo_wrong kl_Mo_wrong kd_Mo_wrong ki_Mo ⟨rfl, by decide, by decide, by decide⟩ rfl ⟨rfl, rfl⟩ (by decide) (by decide) d_Mo_checkTwo_69 (Nat.le_of_ble_eq_true rfl) _ rfl (fun v1 σ1 hv => ?_)
        obtain ⟨rfl, rfl⟩ := hv
        rw [mbind_eq] at hF hS
        generalize F_Mo_wrong σ 6 (σ.2.2.1 9 x2.toNatClampNeg) = w6 at hF hS ⊢
        refine GW.eqs (st' := []) rfl ?_
        refine GW.subl [0, 1, 2] rfl ?_
        exact w_Mo_checkTwo_j72 C hE hr hlocks n w6 x1 x2 Fv hS hF
    · rw [if_pos hc2] at hF hS
      refine g_aload_n C d_Mo_checkTwo_20 rfl ?_
      refine m_geta C hE 28 (by decide) (by decide) (by decide) kf_Mo_81 d_Mo_checkTwo_21 ?_
      refine g_iload_n C d_Mo_checkTwo_24 rfl ?_
      refine g_aload_n C d_Mo_checkTwo_25 rfl ?_
      refine m_geti C hE 32 (by decide) (by decide) kf_Mo_227 d_Mo_checkTwo_26 ?_
      obtain ⟨hi8, hS⟩ := hS
      refine m_ast C hE 28 (by decide) (by decide) hi8 d_Mo_checkTwo_29 ?_
      refine g_aload_n C d_Mo_checkTwo_30 rfl ?_
      refine m_geta C hE 29 (by decide) (by decide) (by decide) kf_Mo_84 d_Mo_checkTwo_31 ?_
      refine g_iload_n C d_Mo_checkTwo_34 rfl ?_
      refine g_aload_n C d_Mo_checkTwo_35 rfl ?_
      refine m_geti C hE 33 (by decide) (by decide) kf_Mo_230 d_Mo_checkTwo_36 ?_
      obtain ⟨hi9, hS⟩ := hS
      refine m_ast C hE 29 (by decide) (by decide) hi9 d_Mo_checkTwo_39 ?_
      refine g_aload_n C d_Mo_checkTwo_40 rfl ?_
      refine g_aload_n C d_Mo_checkTwo_41 rfl ?_
      refine m_geta C hE 10 (by decide) (by decide) (by decide) kf_Mo_25 d_Mo_checkTwo_42 ?_
      refine g_iload_n C d_Mo_checkTwo_45 rfl ?_
      obtain ⟨hi10, hS⟩ := hS
      refine m_ald C hE 10 (by decide) (by decide) hi10 d_Mo_checkTwo_46 ?_
      obtain ⟨hs12, hS⟩ := hS
      refine m_callV (n := 1) (av := [.int ((mo_ai (mo_ai σ 28 x1.toNatClampNeg (σ.1 32)) 29 x1.toNatClampNeg ((mo_ai σ 28 x1.toNatClampNeg (σ.1 32)).1 33)).2.2.1 10 x2.toNatClampNeg)]) (rest := []) C hE (mc_Mo_into l D cs B dE mo ad n _ _ hs12) km_Mo_223 kv_Mo_into kl_Mo_into kd_Mo_into ki_Mo ⟨rfl, by decide, by decide, by decide⟩ rfl ⟨rfl, rfl⟩ (by decide) (by decide) d_Mo_checkTwo_47 (Nat.le_of_ble_eq_true rfl) _ rfl (fun v1 σ1 hv => ?_)
      obtain ⟨rfl, rfl⟩ := hv
      rw [mbind_eq] at hF hS
      generalize F_Mo_into n (mo_ai (mo_ai σ 28 x1.toNatClampNeg (σ.1 32)) 29 x1.toNatClampNeg ((mo_ai σ 28 x1.toNatClampNeg (σ.1 32)).1 33)) ((mo_ai (mo_ai σ 28 x1.toNatClampNeg (σ.1 32)) 29 x1.toNatClampNeg ((mo_ai σ 28 x1.toNatClampNeg (σ.1 32)).1 33)).2.2.1 10 x2.toNatClampNeg) = w11 at hF hS ⊢
      refine GW.eqs (st' := []) rfl ?_
      exact m_vret C hr hlocks d_Mo_checkTwo_50 (by rw [← hF]; exact ⟨rfl, rfl⟩)
  · rw [if_pos hc1] at hF hS
    refine g_aload_n C d_Mo_checkTwo_4 rfl ?_
    refine g_aload_n C d_Mo_checkTwo_5 rfl ?_
    refine m_geta C hE 9 (by decide) (by decide) (by decide) kf_Mo_22 d_Mo_checkTwo_6 ?_
    refine g_iload_n C d_Mo_checkTwo_9 rfl ?_
    obtain ⟨hi13, hS⟩ := hS
    refine m_ald C hE 9 (by decide) (by decide) hi13 d_Mo_checkTwo_10 ?_
    obtain ⟨hs15, hS⟩ := hS
    refine m_callV (n := 1) (av := [.int (σ.2.2.1 9 x2.toNatClampNeg)]) (rest := []) C hE (mc_Mo_into l D cs B dE mo ad n _ _ hs15) km_Mo_223 kv_Mo_into kl_Mo_into kd_Mo_into ki_Mo ⟨rfl, by decide, by decide, by decide⟩ rfl ⟨rfl, rfl⟩ (by decide) (by decide) d_Mo_checkTwo_11 (Nat.le_of_ble_eq_true rfl) _ rfl (fun v1 σ1 hv => ?_)
    obtain ⟨rfl, rfl⟩ := hv
    rw [mbind_eq] at hF hS
    generalize F_Mo_into n σ (σ.2.2.1 9 x2.toNatClampNeg) = w14 at hF hS ⊢
    refine GW.eqs (st' := []) rfl ?_
    exact m_vret C hr hlocks d_Mo_checkTwo_14 (by rw [← hF]; exact ⟨rfl, rfl⟩)
def F_Mo_checkCall_j42 (n : Nat) (σ : mSt) (x1 : Int32) (x2 : Int32) : mSt := mbind (F_Mo_into n (mo_ai (mo_ai σ 28 x1.toNatClampNeg (σ.1 32)) 29 x1.toNatClampNeg ((mo_ai σ 28 x1.toNatClampNeg (σ.1 32)).1 33)) ((mo_ai (mo_ai σ 28 x1.toNatClampNeg (σ.1 32)) 29 x1.toNatClampNeg ((mo_ai σ 28 x1.toNatClampNeg (σ.1 32)).1 33)).2.2.1 10 x2.toNatClampNeg)) (fun w20 => w20)
def S_Mo_checkCall_j42 (n : Nat) (σ : mSt) (x1 : Int32) (x2 : Int32) : Prop := (vp_in x1 45) ∧ ((vp_in x1 45) ∧ ((vp_in x2 200) ∧ ((S_Mo_into n (mo_ai (mo_ai σ 28 x1.toNatClampNeg (σ.1 32)) 29 x1.toNatClampNeg ((mo_ai σ 28 x1.toNatClampNeg (σ.1 32)).1 33)) ((mo_ai (mo_ai σ 28 x1.toNatClampNeg (σ.1 32)) 29 x1.toNatClampNeg ((mo_ai σ 28 x1.toNatClampNeg (σ.1 32)).1 33)).2.2.1 10 x2.toNatClampNeg)) ∧ (mbind (F_Mo_into n (mo_ai (mo_ai σ 28 x1.toNatClampNeg (σ.1 32)) 29 x1.toNatClampNeg ((mo_ai σ 28 x1.toNatClampNeg (σ.1 32)).1 33)) ((mo_ai (mo_ai σ 28 x1.toNatClampNeg (σ.1 32)) 29 x1.toNatClampNeg ((mo_ai σ 28 x1.toNatClampNeg (σ.1 32)).1 33)).2.2.1 10 x2.toNatClampNeg)) (fun w20 => True)))))
set_option maxRecDepth 100000 in
set_option maxHeartbeats 4000000 in
theorem w_Mo_checkCall_j42 {p : Program} {l : Launch} {e : Env} {s : State} {m : MethodId} {args : Array Value} {below : List Frame} {meth : Method} {c : Code} {D : va_G} {cs : Nat → ClassId} {B : Nat} {dE : Nat × Nat} {mo : Nat} {ad : Nat → Nat} {M0 : gMem} (C : CallFix p m c c_Mo_checkCall 5 s args gT R_Mo) (hE : gEnv D gcl (gtys cs) gz B dE s) (hr : meth.sig.returnType = none) (hlocks : meth.locks = false) (n : Nat) (σ : mSt) (x1 : Int32) (x2 : Int32) (Fv : mSt) (hS : S_Mo_checkCall_j42 n σ x1 x2) (hF : F_Mo_checkCall_j42 n σ x1 x2 = Fv) : GW p l e ({ frames := 1, cells := 0, slots := 0, locals := 23 } : Room) s m args below meth c 5 (gA B) (mQ below D cs B mo ad M0 (fun r σ' => r = none ∧ σ' = Fv) args s) (mo_P D B cs mo ad M0 σ) 0 0 42 [(0, .ref mo), (1, .int x1), (2, .int x2)] [] := by
  unfold F_Mo_checkCall_j42 at hF
  unfold S_Mo_checkCall_j42 at hS
  refine g_aload_n C d_Mo_checkCall_42 rfl ?_
  refine m_geta C hE 28 (by decide) (by decide) (by decide) kf_Mo_81 d_Mo_checkCall_43 ?_
  refine g_iload_n C d_Mo_checkCall_46 rfl ?_
  refine g_aload_n C d_Mo_checkCall_47 rfl ?_
  refine m_geti C hE 32 (by decide) (by decide) kf_Mo_227 d_Mo_checkCall_48 ?_
  obtain ⟨hi17, hS⟩ := hS
  refine m_ast C hE 28 (by decide) (by decide) hi17 d_Mo_checkCall_51 ?_
  refine g_aload_n C d_Mo_checkCall_52 rfl ?_
  refine m_geta C hE 29 (by decide) (by decide) (by decide) kf_Mo_84 d_Mo_checkCall_53 ?_
  refine g_iload_n C d_Mo_checkCall_56 rfl ?_
  refine g_aload_n C d_Mo_checkCall_57 rfl ?_
  refine m_geti C hE 33 (by decide) (by decide) kf_Mo_230 d_Mo_checkCall_58 ?_
  obtain ⟨hi18, hS⟩ := hS
  refine m_ast C hE 29 (by decide) (by decide) hi18 d_Mo_checkCall_61 ?_
  refine g_aload_n C d_Mo_checkCall_62 rfl ?_
  refine g_aload_n C d_Mo_checkCall_63 rfl ?_
  refine m_geta C hE 10 (by decide) (by decide) (by decide) kf_Mo_25 d_Mo_checkCall_64 ?_
  refine g_iload_n C d_Mo_checkCall_67 rfl ?_
  obtain ⟨hi19, hS⟩ := hS
  refine m_ald C hE 10 (by decide) (by decide) hi19 d_Mo_checkCall_68 ?_
  obtain ⟨hs21, hS⟩ := hS
  refine m_callV (n := 1) (av := [.int ((mo_ai (mo_ai σ 28 x1.toNatClampNeg (σ.1 32)) 29 x1.toNatClampNeg ((mo_ai σ 28 x1.toNatClampNeg (σ.1 32)).1 33)).2.2.1 10 x2.toNatClampNeg)]) (rest := []) C hE (mc_Mo_into l D cs B dE mo ad n _ _ hs21) km_Mo_223 kv_Mo_into kl_Mo_into kd_Mo_into ki_Mo ⟨rfl, by decide, by decide, by decide⟩ rfl ⟨rfl, rfl⟩ (by decide) (by decide) d_Mo_checkCall_69 (Nat.le_of_ble_eq_true rfl) _ rfl (fun v1 σ1 hv => ?_)
  obtain ⟨rfl, rfl⟩ := hv
  rw [mbind_eq] at hF hS
  generalize F_Mo_into n (mo_ai (mo_ai σ 28 x1.toNatClampNeg (σ.1 32)) 29 x1.toNatClampNeg ((mo_ai σ 28 x1.toNatClampNeg (σ.1 32)).1 33)) ((mo_ai (mo_ai σ 28 x1.toNatClampNeg (σ.1 32)) 29 x1.toNatClampNeg ((mo_ai σ 28 x1.toNatClampNeg (σ.1 32)).1 33)).2.2.1 10 x2.toNatClampNeg) = w20 at hF hS ⊢
  refine GW.eqs (st' := []) rfl ?_
  refine g_goto C 149 d_Mo_checkCall_72 (by decide) ?_
  exact m_vret C hr hlocks d_Mo_checkCall_149 (by rw [← hF]; exact ⟨rfl, rfl⟩)
def F_Mo_checkCall_j119 (n : Nat) (σ : mSt) (x1 : Int32) (x4 : Int32) : mSt := mbind (F_Mo_ends σ (σ.2.2.1 21 x4.toNatClampNeg) (((σ.2.2.1 29 x1.toNatClampNeg) ||| (σ.1 33)) ||| (σ.2.2.1 22 x4.toNatClampNeg))) (fun w25 => w25)
def S_Mo_checkCall_j119 (n : Nat) (σ : mSt) (x1 : Int32) (x4 : Int32) : Prop := (vp_in x4 520) ∧ ((vp_in x1 45) ∧ ((vp_in x4 520) ∧ ((S_Mo_ends σ (σ.2.2.1 21 x4.toNatClampNeg) (((σ.2.2.1 29 x1.toNatClampNeg) ||| (σ.1 33)) ||| (σ.2.2.1 22 x4.toNatClampNeg))) ∧ (mbind (F_Mo_ends σ (σ.2.2.1 21 x4.toNatClampNeg) (((σ.2.2.1 29 x1.toNatClampNeg) ||| (σ.1 33)) ||| (σ.2.2.1 22 x4.toNatClampNeg))) (fun w25 => True)))))
set_option maxRecDepth 100000 in
set_option maxHeartbeats 4000000 in
theorem w_Mo_checkCall_j119 {p : Program} {l : Launch} {e : Env} {s : State} {m : MethodId} {args : Array Value} {below : List Frame} {meth : Method} {c : Code} {D : va_G} {cs : Nat → ClassId} {B : Nat} {dE : Nat × Nat} {mo : Nat} {ad : Nat → Nat} {M0 : gMem} (C : CallFix p m c c_Mo_checkCall 5 s args gT R_Mo) (hE : gEnv D gcl (gtys cs) gz B dE s) (hr : meth.sig.returnType = none) (hlocks : meth.locks = false) (n : Nat) (σ : mSt) (x1 : Int32) (x4 : Int32) (Fv : mSt) (hS : S_Mo_checkCall_j119 n σ x1 x4) (hF : F_Mo_checkCall_j119 n σ x1 x4 = Fv) : GW p l e ({ frames := 1, cells := 0, slots := 0, locals := 23 } : Room) s m args below meth c 5 (gA B) (mQ below D cs B mo ad M0 (fun r σ' => r = none ∧ σ' = Fv) args s) (mo_P D B cs mo ad M0 σ) 0 0 119 [(0, .ref mo), (1, .int x1), (4, .int x4)] [] := by
  unfold F_Mo_checkCall_j119 at hF
  unfold S_Mo_checkCall_j119 at hS
  refine g_aload_n C d_Mo_checkCall_119 rfl ?_
  refine g_aload_n C d_Mo_checkCall_120 rfl ?_
  refine m_geta C hE 21 (by decide) (by decide) (by decide) kf_Mo_58 d_Mo_checkCall_121 ?_
  refine g_iload C d_Mo_checkCall_124 rfl ?_
  obtain ⟨hi22, hS⟩ := hS
  refine m_ald C hE 21 (by decide) (by decide) hi22 d_Mo_checkCall_126 ?_
  refine g_aload_n C d_Mo_checkCall_127 rfl ?_
  refine m_geta C hE 29 (by decide) (by decide) (by decide) kf_Mo_84 d_Mo_checkCall_128 ?_
  refine g_iload_n C d_Mo_checkCall_131 rfl ?_
  obtain ⟨hi23, hS⟩ := hS
  refine m_ald C hE 29 (by decide) (by decide) hi23 d_Mo_checkCall_132 ?_
  refine g_aload_n C d_Mo_checkCall_133 rfl ?_
  refine m_geti C hE 33 (by decide) (by decide) kf_Mo_230 d_Mo_checkCall_134 ?_
  refine g_ior C d_Mo_checkCall_137 ?_
  refine g_aload_n C d_Mo_checkCall_138 rfl ?_
  refine m_geta C hE 22 (by decide) (by decide) (by decide) kf_Mo_61 d_Mo_checkCall_139 ?_
  refine g_iload C d_Mo_checkCall_142 rfl ?_
  obtain ⟨hi24, hS⟩ := hS
  refine m_ald C hE 22 (by decide) (by decide) hi24 d_Mo_checkCall_144 ?_
  refine g_ior C d_Mo_checkCall_145 ?_
  obtain ⟨hs26, hS⟩ := hS
  refine m_callV (n := 2) (av := [.int (σ.2.2.1 21 x4.toNatClampNeg), .int (((σ.2.2.1 29 x1.toNatClampNeg) ||| (σ.1 33)) ||| (σ.2.2.1 22 x4.toNatClampNeg))]) (rest := []) C hE (mc_Mo_ends l D cs B dE mo ad _ _ _ hs26) km_Mo_240 kv_Mo_ends kl_Mo_ends kd_Mo_ends ki_Mo ⟨rfl, by decide, by decide, by decide⟩ rfl ⟨rfl, rfl⟩ (by decide) (by decide) d_Mo_checkCall_146 (Nat.le_of_ble_eq_true rfl) _ rfl (fun v1 σ1 hv => ?_)
  obtain ⟨rfl, rfl⟩ := hv
  rw [mbind_eq] at hF hS
  generalize F_Mo_ends σ (σ.2.2.1 21 x4.toNatClampNeg) (((σ.2.2.1 29 x1.toNatClampNeg) ||| (σ.1 33)) ||| (σ.2.2.1 22 x4.toNatClampNeg)) = w25 at hF hS ⊢
  refine GW.eqs (st' := []) rfl ?_
  exact m_vret C hr hlocks d_Mo_checkCall_149 (by rw [← hF]; exact ⟨rfl, rfl⟩)
def F_Mo_checkCall (n : Nat) (σ : mSt) (x1 : Int32) (x2 : Int32) (x3 : Int32) : mSt := if x3 = 0 then (mbind (F_Mo_into n σ (σ.2.2.1 9 x2.toNatClampNeg)) (fun w15 => w15)) else (if x3 = 1 then (if 3 ≤ (σ.1 32) then (F_Mo_checkCall_j42 n σ x1 x2) else (mbind (F_Mo_wrong σ 6 (σ.2.2.1 9 x2.toNatClampNeg)) (fun w12 => F_Mo_checkCall_j42 n w12 x1 x2))) else (if (σ.2.2.1 23 ((520 * (σ.1 32)) + (σ.2.2.1 20 (σ.2.2.1 28 x1.toNatClampNeg).toNatClampNeg)).toNatClampNeg) = 0 then (mbind (F_Mo_wrong σ 6 (σ.2.2.1 10 x2.toNatClampNeg)) (fun w8 => F_Mo_checkCall_j119 n w8 x1 (σ.2.2.1 28 x1.toNatClampNeg))) else (F_Mo_checkCall_j119 n σ x1 (σ.2.2.1 28 x1.toNatClampNeg))))
def S_Mo_checkCall (n : Nat) (σ : mSt) (x1 : Int32) (x2 : Int32) (x3 : Int32) : Prop := if x3 = 0 then ((vp_in x2 200) ∧ ((S_Mo_into n σ (σ.2.2.1 9 x2.toNatClampNeg)) ∧ (mbind (F_Mo_into n σ (σ.2.2.1 9 x2.toNatClampNeg)) (fun w15 => True)))) else (if x3 = 1 then (if 3 ≤ (σ.1 32) then (S_Mo_checkCall_j42 n σ x1 x2) else ((vp_in x2 200) ∧ ((S_Mo_wrong σ 6 (σ.2.2.1 9 x2.toNatClampNeg)) ∧ (mbind (F_Mo_wrong σ 6 (σ.2.2.1 9 x2.toNatClampNeg)) (fun w12 => S_Mo_checkCall_j42 n w12 x1 x2))))) else ((vp_in x1 45) ∧ ((vp_in (σ.2.2.1 28 x1.toNatClampNeg) 520) ∧ ((vp_in ((520 * (σ.1 32)) + (σ.2.2.1 20 (σ.2.2.1 28 x1.toNatClampNeg).toNatClampNeg)) 270400) ∧ (if (σ.2.2.1 23 ((520 * (σ.1 32)) + (σ.2.2.1 20 (σ.2.2.1 28 x1.toNatClampNeg).toNatClampNeg)).toNatClampNeg) = 0 then ((vp_in x2 200) ∧ ((S_Mo_wrong σ 6 (σ.2.2.1 10 x2.toNatClampNeg)) ∧ (mbind (F_Mo_wrong σ 6 (σ.2.2.1 10 x2.toNatClampNeg)) (fun w8 => S_Mo_checkCall_j119 n w8 x1 (σ.2.2.1 28 x1.toNatClampNeg))))) else (S_Mo_checkCall_j119 n σ x1 (σ.2.2.1 28 x1.toNatClampNeg)))))))
set_option maxRecDepth 100000 in
set_option maxHeartbeats 4000000 in
theorem mc_Mo_checkCall (l : Launch) (D : va_G) (cs : Nat → ClassId) (B : Nat) (dE : Nat × Nat) (mo : Nat) (ad : Nat → Nat) (n : Nat) (σ : mSt) (x1 : Int32) (x2 : Int32) (x3 : Int32) (hS : S_Mo_checkCall n σ x1 x2 x3) : mMet l y_Mo_checkCall (Cond.code y_Mo_checkCall c_Mo_checkCall 5 none) ({ frames := 1, cells := 0, slots := 0, locals := 23 } : Room) D cs B dE mo ad [.ref mo, .int x1, .int x2, .int x3] σ (fun r σ' => r = none ∧ σ' = F_Mo_checkCall n σ x1 x2 x3) := by
  refine mMet.ofW (by decide) rfl (Nat.le_of_ble_eq_true rfl) (lv0 := [(0, .ref mo), (1, .int x1), (2, .int x2), (3, .int x3)]) rfl ?_
  intro p e s m args below meth c M0 C hE hr hlocks
  generalize hF : F_Mo_checkCall n σ x1 x2 x3 = Fv
  unfold F_Mo_checkCall at hF
  unfold S_Mo_checkCall at hS
  refine g_iload_n C d_Mo_checkCall_0 rfl ?_
  refine g_if_ne C 17 d_Mo_checkCall_1 (by decide) (fun hc1 => ?_) (fun hc1 => ?_)
  · rw [if_neg hc1] at hF hS
    refine g_iload_n C d_Mo_checkCall_17 rfl ?_
    refine g_iconst (v := 1) C d_Mo_checkCall_18 (by decide) ?_
    refine g_icmp_ne C 75 d_Mo_checkCall_19 (by decide) (fun hc2 => ?_) (fun hc2 => ?_)
    · rw [if_neg hc2] at hF hS
      refine g_aload_n C d_Mo_checkCall_75 rfl ?_
      refine m_geta C hE 28 (by decide) (by decide) (by decide) kf_Mo_81 d_Mo_checkCall_76 ?_
      refine g_iload_n C d_Mo_checkCall_79 rfl ?_
      obtain ⟨hi3, hS⟩ := hS
      refine m_ald C hE 28 (by decide) (by decide) hi3 d_Mo_checkCall_80 ?_
      refine g_istore (lv' := [(4, .int (σ.2.2.1 28 x1.toNatClampNeg)), (0, .ref mo), (1, .int x1), (2, .int x2), (3, .int x3)]) C d_Mo_checkCall_81 (by decide) rfl ?_
      refine g_aload_n C d_Mo_checkCall_83 rfl ?_
      refine m_geta C hE 23 (by decide) (by decide) (by decide) kf_Mo_65 d_Mo_checkCall_84 ?_
      refine g_sipush (v := 520) C d_Mo_checkCall_87 (by decide) ?_
      refine g_aload_n C d_Mo_checkCall_90 rfl ?_
      refine m_geti C hE 32 (by decide) (by decide) kf_Mo_227 d_Mo_checkCall_91 ?_
      refine g_imul C d_Mo_checkCall_94 ?_
      refine g_aload_n C d_Mo_checkCall_95 rfl ?_
      refine m_geta C hE 20 (by decide) (by decide) (by decide) kf_Mo_55 d_Mo_checkCall_96 ?_
      refine g_iload C d_Mo_checkCall_99 rfl ?_
      obtain ⟨hi4, hS⟩ := hS
      refine m_ald C hE 20 (by decide) (by decide) hi4 d_Mo_checkCall_101 ?_
      refine g_iadd C d_Mo_checkCall_102 ?_
      obtain ⟨hi5, hS⟩ := hS
      refine m_zald C hE 23 (by decide) (by decide) hi5 d_Mo_checkCall_103 ?_
      refine g_if_ne C 119 d_Mo_checkCall_104 (by decide) (fun hc6 => ?_) (fun hc6 => ?_)
      · rw [if_neg hc6] at hF hS
        refine GW.subl [1, 2, 0] rfl ?_
        exact w_Mo_checkCall_j119 C hE hr hlocks n σ x1 (σ.2.2.1 28 x1.toNatClampNeg) Fv hS hF
      · rw [if_pos hc6] at hF hS
        refine g_aload_n C d_Mo_checkCall_107 rfl ?_
        refine g_bipush (v := 6) C d_Mo_checkCall_108 (by decide) ?_
        refine g_aload_n C d_Mo_checkCall_110 rfl ?_
        refine m_geta C hE 10 (by decide) (by decide) (by decide) kf_Mo_25 d_Mo_checkCall_111 ?_
        refine g_iload_n C d_Mo_checkCall_114 rfl ?_
        obtain ⟨hi7, hS⟩ := hS
        refine m_ald C hE 10 (by decide) (by decide) hi7 d_Mo_checkCall_115 ?_
        obtain ⟨hs9, hS⟩ := hS
        refine m_callV (n := 2) (av := [.int 6, .int (σ.2.2.1 10 x2.toNatClampNeg)]) (rest := []) C hE (mc_Mo_wrong l D cs B dE mo ad _ _ _ hs9) km_Mo_237 kv_Mo_wrong kl_Mo_wrong kd_Mo_wrong ki_Mo ⟨rfl, by decide, by decide, by decide⟩ rfl ⟨rfl, rfl⟩ (by decide) (by decide) d_Mo_checkCall_116 (Nat.le_of_ble_eq_true rfl) _ rfl (fun v1 σ1 hv => ?_)
        obtain ⟨rfl, rfl⟩ := hv
        rw [mbind_eq] at hF hS
        generalize F_Mo_wrong σ 6 (σ.2.2.1 10 x2.toNatClampNeg) = w8 at hF hS ⊢
        refine GW.eqs (st' := []) rfl ?_
        refine GW.subl [1, 2, 0] rfl ?_
        exact w_Mo_checkCall_j119 C hE hr hlocks n w8 x1 (σ.2.2.1 28 x1.toNatClampNeg) Fv hS hF
    · rw [if_pos hc2] at hF hS
      refine g_aload_n C d_Mo_checkCall_22 rfl ?_
      refine m_geti C hE 32 (by decide) (by decide) kf_Mo_227 d_Mo_checkCall_23 ?_
      refine g_iconst (v := 3) C d_Mo_checkCall_26 (by decide) ?_
      refine g_icmp_ge C 42 d_Mo_checkCall_27 (by decide) (fun hc10 => ?_) (fun hc10 => ?_)
      · rw [if_pos hc10] at hF hS
        refine GW.subl [0, 1, 2] rfl ?_
        exact w_Mo_checkCall_j42 C hE hr hlocks n σ x1 x2 Fv hS hF
      · rw [if_neg hc10] at hF hS
        refine g_aload_n C d_Mo_checkCall_30 rfl ?_
        refine g_bipush (v := 6) C d_Mo_checkCall_31 (by decide) ?_
        refine g_aload_n C d_Mo_checkCall_33 rfl ?_
        refine m_geta C hE 9 (by decide) (by decide) (by decide) kf_Mo_22 d_Mo_checkCall_34 ?_
        refine g_iload_n C d_Mo_checkCall_37 rfl ?_
        obtain ⟨hi11, hS⟩ := hS
        refine m_ald C hE 9 (by decide) (by decide) hi11 d_Mo_checkCall_38 ?_
        obtain ⟨hs13, hS⟩ := hS
        refine m_callV (n := 2) (av := [.int 6, .int (σ.2.2.1 9 x2.toNatClampNeg)]) (rest := []) C hE (mc_Mo_wrong l D cs B dE mo ad _ _ _ hs13) km_Mo_237 kv_Mo_wrong kl_Mo_wrong kd_Mo_wrong ki_Mo ⟨rfl, by decide, by decide, by decide⟩ rfl ⟨rfl, rfl⟩ (by decide) (by decide) d_Mo_checkCall_39 (Nat.le_of_ble_eq_true rfl) _ rfl (fun v1 σ1 hv => ?_)
        obtain ⟨rfl, rfl⟩ := hv
        rw [mbind_eq] at hF hS
        generalize F_Mo_wrong σ 6 (σ.2.2.1 9 x2.toNatClampNeg) = w12 at hF hS ⊢
        refine GW.eqs (st' := []) rfl ?_
        refine GW.subl [0, 1, 2] rfl ?_
        exact w_Mo_checkCall_j42 C hE hr hlocks n w12 x1 x2 Fv hS hF
  · rw [if_pos hc1] at hF hS
    refine g_aload_n C d_Mo_checkCall_4 rfl ?_
    refine g_aload_n C d_Mo_checkCall_5 rfl ?_
    refine m_geta C hE 9 (by decide) (by decide) (by decide) kf_Mo_22 d_Mo_checkCall_6 ?_
    refine g_iload_n C d_Mo_checkCall_9 rfl ?_
    obtain ⟨hi14, hS⟩ := hS
    refine m_ald C hE 9 (by decide) (by decide) hi14 d_Mo_checkCall_10 ?_
    obtain ⟨hs16, hS⟩ := hS
    refine m_callV (n := 1) (av := [.int (σ.2.2.1 9 x2.toNatClampNeg)]) (rest := []) C hE (mc_Mo_into l D cs B dE mo ad n _ _ hs16) km_Mo_223 kv_Mo_into kl_Mo_into kd_Mo_into ki_Mo ⟨rfl, by decide, by decide, by decide⟩ rfl ⟨rfl, rfl⟩ (by decide) (by decide) d_Mo_checkCall_11 (Nat.le_of_ble_eq_true rfl) _ rfl (fun v1 σ1 hv => ?_)
    obtain ⟨rfl, rfl⟩ := hv
    rw [mbind_eq] at hF hS
    generalize F_Mo_into n σ (σ.2.2.1 9 x2.toNatClampNeg) = w15 at hF hS ⊢
    refine GW.eqs (st' := []) rfl ?_
    refine g_goto C 149 d_Mo_checkCall_14 (by decide) ?_
    exact m_vret C hr hlocks d_Mo_checkCall_149 (by rw [← hF]; exact ⟨rfl, rfl⟩)
