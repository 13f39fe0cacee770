/-! the reference's methods as functions over its state: by program (wip/tools/decomp.py) -/
def F_Mo_seeAgain_2 : Nat → mSt → Int32 → Int32 → mSt
  | 0, σ, _, _ => σ
  | n + 1, σ, x1, x2 => if 10 ≤ x2 then (σ) else (F_Mo_seeAgain_2 n (mo_al σ 53 x2.toNatClampNeg (σ.2.2.2 43 ((10 * x1) + x2).toNatClampNeg)) x1 (x2 + 1))
def S_Mo_seeAgain_2 : Nat → mSt → Int32 → Int32 → Prop
  | 0, _, _, _ => False
  | n + 1, σ, x1, x2 => if 10 ≤ x2 then (True) else ((vp_in ((10 * x1) + x2) 170000) ∧ ((vp_in x2 10) ∧ (S_Mo_seeAgain_2 n (mo_al σ 53 x2.toNatClampNeg (σ.2.2.2 43 ((10 * x1) + x2).toNatClampNeg)) x1 (x2 + 1))))
set_option maxRecDepth 100000 in
set_option maxHeartbeats 4000000 in
theorem w_Mo_seeAgain_2 {p : Program} {l : Launch} {e : Env} {s : State} {m : MethodId} {args : Array Value} {below : List Frame} {meth : Method} {c : Code} {D : va_G} {cs : Nat → ClassId} {B : Nat} {dE : Nat × Nat} {mo : Nat} {ad : Nat → Nat} {M0 : gMem} {Q : State → Prop} (C : CallFix p m c c_Mo_seeAgain 3 s args gT R_Mo) (hE : gEnv D gcl (gtys cs) gz B dE s) (n : Nat) (σ : mSt) (x1 : Int32) (x2 : Int32) (Fv : mSt) (hS : S_Mo_seeAgain_2 n σ x1 x2) (hF : F_Mo_seeAgain_2 n σ x1 x2 = Fv) (hk : GW p l e ({ frames := 0, cells := 0, slots := 0, locals := 0 } : Room) s m args below meth c 3 (gA B) Q (mo_P D B cs mo ad M0 Fv) 0 0 31 [(0, .ref mo)] []) : GW p l e ({ frames := 0, cells := 0, slots := 0, locals := 0 } : Room) s m args below meth c 3 (gA B) Q (mo_P D B cs mo ad M0 σ) 0 0 2 [(0, .ref mo), (1, .int x1), (2, .int x2)] [] := by
  induction n generalizing σ x1 x2 Fv with
  | zero => exact hS.elim
  | succ n ih =>
    unfold F_Mo_seeAgain_2 at hF
    unfold S_Mo_seeAgain_2 at hS
    refine g_iload_n C d_Mo_seeAgain_2 rfl ?_
    refine g_bipush (v := 10) C d_Mo_seeAgain_3 (by decide) ?_
    refine g_icmp_ge C 31 d_Mo_seeAgain_5 (by decide) (fun hc3 => ?_) (fun hc3 => ?_)
    · rw [if_pos hc3] at hF hS
      refine GW.subl [0] rfl ?_
      rw [← hF] at hk
      exact hk
    · rw [if_neg hc3] at hF hS
      refine g_aload_n C d_Mo_seeAgain_8 rfl ?_
      refine m_geta C hE 53 (by decide) (by decide) (by decide) kf_Mo_104 d_Mo_seeAgain_9 ?_
      refine g_iload_n C d_Mo_seeAgain_12 rfl ?_
      refine g_aload_n C d_Mo_seeAgain_13 rfl ?_
      refine m_geta C hE 43 (by decide) (by decide) (by decide) kf_Mo_101 d_Mo_seeAgain_14 ?_
      refine g_bipush (v := 10) C d_Mo_seeAgain_17 (by decide) ?_
      refine g_iload_n C d_Mo_seeAgain_19 rfl ?_
      refine g_imul C d_Mo_seeAgain_20 ?_
      refine g_iload_n C d_Mo_seeAgain_21 rfl ?_
      refine g_iadd C d_Mo_seeAgain_22 ?_
      obtain ⟨hi4, hS⟩ := hS
      refine m_lald C hE 43 (by decide) (by decide) hi4 d_Mo_seeAgain_23 ?_
      obtain ⟨hi5, hS⟩ := hS
      refine m_last C hE 53 (by decide) (by decide) hi5 d_Mo_seeAgain_24 ?_
      refine g_iinc (v := x2 + 1) (lv' := [(2, .int (x2 + 1)), (0, .ref mo), (1, .int x1)]) C d_Mo_seeAgain_25 rfl rfl (by decide) rfl ?_
      refine g_goto C 2 d_Mo_seeAgain_28 (by decide) ?_
      refine GW.subl [1, 2, 0] rfl ?_
      exact ih (mo_al σ 53 x2.toNatClampNeg (σ.2.2.2 43 ((10 * x1) + x2).toNatClampNeg)) x1 (x2 + 1) Fv hS hF hk
def F_Mo_seeAgain (n : Nat) (σ : mSt) (x1 : Int32) : mSt := mbind (F_Mo_seeAgain_2 n σ x1 0) (fun w1 => w1)
def S_Mo_seeAgain (n : Nat) (σ : mSt) (x1 : Int32) : Prop := (S_Mo_seeAgain_2 n σ x1 0) ∧ (mbind (F_Mo_seeAgain_2 n σ x1 0) (fun w1 => True))
set_option maxRecDepth 100000 in
set_option maxHeartbeats 4000000 in
theorem mc_Mo_seeAgain (l : Launch) (D : va_G) (cs : Nat → ClassId) (B : Nat) (dE : Nat × Nat) (mo : Nat) (ad : Nat → Nat) (n : Nat) (σ : mSt) (x1 : Int32) (hS : S_Mo_seeAgain n σ x1) : mMet l y_Mo_seeAgain (Cond.code y_Mo_seeAgain c_Mo_seeAgain 3 none) ({ frames := 0, cells := 0, slots := 0, locals := 0 } : Room) D cs B dE mo ad [.ref mo, .int x1] σ (fun r σ' => r = none ∧ σ' = F_Mo_seeAgain n σ x1) := by
  refine mMet.ofW (by decide) rfl (Nat.le_of_ble_eq_true rfl) (lv0 := [(0, .ref mo), (1, .int x1)]) rfl ?_
  intro p e s m args below meth c M0 C hE hr hlocks
  generalize hF : F_Mo_seeAgain n σ x1 = Fv
  unfold F_Mo_seeAgain at hF
  unfold S_Mo_seeAgain at hS
  refine g_iconst (v := 0) C d_Mo_seeAgain_0 (by decide) ?_
  refine g_istore_n (lv' := [(2, .int 0), (0, .ref mo), (1, .int x1)]) C d_Mo_seeAgain_1 (by decide) rfl ?_
  obtain ⟨hs2, hS⟩ := hS
  rw [mbind_eq] at hF hS
  refine GW.subl [1, 2, 0] rfl ?_
  refine w_Mo_seeAgain_2 C hE n σ x1 0 _ hs2 rfl ?_
  generalize F_Mo_seeAgain_2 n σ x1 0 = w1 at hF hS ⊢
  exact m_vret C hr hlocks d_Mo_seeAgain_31 (by rw [← hF]; exact ⟨rfl, rfl⟩)
def F_Mo_give (σ : mSt) (x1 : Int64) : mSt := mo_si (mo_sl σ x1) 51 1
def S_Mo_give (σ : mSt) (x1 : Int64) : Prop := True
set_option maxRecDepth 100000 in
set_option maxHeartbeats 4000000 in
theorem mc_Mo_give (l : Launch) (D : va_G) (cs : Nat → ClassId) (B : Nat) (dE : Nat × Nat) (mo : Nat) (ad : Nat → Nat) (σ : mSt) (x1 : Int64) (hS : S_Mo_give σ x1) : mMet l y_Mo_give (Cond.code y_Mo_give c_Mo_give 3 none) ({ frames := 0, cells := 0, slots := 0, locals := 0 } : Room) D cs B dE mo ad [.ref mo, .long x1] σ (fun r σ' => r = none ∧ σ' = F_Mo_give σ x1) := by
  refine mMet.ofW (by decide) rfl (Nat.le_of_ble_eq_true rfl) (lv0 := [(0, .ref mo), (1, .long x1)]) rfl ?_
  intro p e s m args below meth c M0 C hE hr hlocks
  generalize hF : F_Mo_give σ x1 = Fv
  unfold F_Mo_give at hF
  unfold S_Mo_give at hS
  refine g_aload_n C d_Mo_give_0 rfl ?_
  refine g_lload_n C d_Mo_give_1 rfl ?_
  refine m_putl C hE kf_Mo_186 d_Mo_give_2 ?_
  refine g_aload_n C d_Mo_give_5 rfl ?_
  refine g_iconst (v := 1) C d_Mo_give_6 (by decide) ?_
  refine m_putz C hE 51 (by decide) (by decide) rfl rfl (by decide) kf_Mo_289 d_Mo_give_7 ?_
  exact m_vret C hr hlocks d_Mo_give_10 (by rw [← hF]; exact ⟨rfl, rfl⟩)
def F_Mo_work (σ : mSt) (x1 : Int32) : mSt := mo_si (mo_si σ 45 x1) 51 0
def S_Mo_work (σ : mSt) (x1 : Int32) : Prop := True
set_option maxRecDepth 100000 in
set_option maxHeartbeats 4000000 in
theorem mc_Mo_work (l : Launch) (D : va_G) (cs : Nat → ClassId) (B : Nat) (dE : Nat × Nat) (mo : Nat) (ad : Nat → Nat) (σ : mSt) (x1 : Int32) (hS : S_Mo_work σ x1) : mMet l y_Mo_work (Cond.code y_Mo_work c_Mo_work 2 none) ({ frames := 0, cells := 0, slots := 0, locals := 0 } : Room) D cs B dE mo ad [.ref mo, .int x1] σ (fun r σ' => r = none ∧ σ' = F_Mo_work σ x1) := by
  refine mMet.ofW (by decide) rfl (Nat.le_of_ble_eq_true rfl) (lv0 := [(0, .ref mo), (1, .int x1)]) rfl ?_
  intro p e s m args below meth c M0 C hE hr hlocks
  generalize hF : F_Mo_work σ x1 = Fv
  unfold F_Mo_work at hF
  unfold S_Mo_work at hS
  refine g_aload_n C d_Mo_work_0 rfl ?_
  refine g_iload_n C d_Mo_work_1 rfl ?_
  refine m_puti C hE 45 (by decide) (by decide) rfl rfl kf_Mo_286 d_Mo_work_2 ?_
  refine g_aload_n C d_Mo_work_5 rfl ?_
  refine g_iconst (v := 0) C d_Mo_work_6 (by decide) ?_
  refine m_putz C hE 51 (by decide) (by decide) rfl rfl (by decide) kf_Mo_289 d_Mo_work_7 ?_
  exact m_vret C hr hlocks d_Mo_work_10 (by rw [← hF]; exact ⟨rfl, rfl⟩)
def F_Mo_makes_39 : Nat → mSt → Int32 → mSt
  | 0, σ, _ => σ
  | n + 1, σ, x2 => if 10 ≤ x2 then (σ) else (F_Mo_makes_39 n (mo_al σ 55 ((10 * (σ.1 56)) + x2).toNatClampNeg (σ.2.2.2 53 x2.toNatClampNeg)) (x2 + 1))
def S_Mo_makes_39 : Nat → mSt → Int32 → Prop
  | 0, _, _ => False
  | n + 1, σ, x2 => if 10 ≤ x2 then (True) else ((vp_in x2 10) ∧ ((vp_in ((10 * (σ.1 56)) + x2) 10000) ∧ (S_Mo_makes_39 n (mo_al σ 55 ((10 * (σ.1 56)) + x2).toNatClampNeg (σ.2.2.2 53 x2.toNatClampNeg)) (x2 + 1))))
set_option maxRecDepth 100000 in
set_option maxHeartbeats 4000000 in
theorem w_Mo_makes_39 {p : Program} {l : Launch} {e : Env} {s : State} {m : MethodId} {args : Array Value} {below : List Frame} {meth : Method} {c : Code} {D : va_G} {cs : Nat → ClassId} {B : Nat} {dE : Nat × Nat} {mo : Nat} {ad : Nat → Nat} {M0 : gMem} {Q : State → Prop} (C : CallFix p m c c_Mo_makes 3 s args gT R_Mo) (hE : gEnv D gcl (gtys cs) gz B dE s) (n : Nat) (σ : mSt) (x2 : Int32) (Fv : mSt) (hS : S_Mo_makes_39 n σ x2) (hF : F_Mo_makes_39 n σ x2 = Fv) (hk : GW p l e ({ frames := 0, cells := 0, slots := 0, locals := 0 } : Room) s m args below meth c 3 (gA B) Q (mo_P D B cs mo ad M0 Fv) 0 0 71 [(0, .ref mo)] []) : GW p l e ({ frames := 0, cells := 0, slots := 0, locals := 0 } : Room) s m args below meth c 3 (gA B) Q (mo_P D B cs mo ad M0 σ) 0 0 39 [(0, .ref mo), (2, .int x2)] [] := by
  induction n generalizing σ x2 Fv with
  | zero => exact hS.elim
  | succ n ih =>
    unfold F_Mo_makes_39 at hF
    unfold S_Mo_makes_39 at hS
    refine g_iload_n C d_Mo_makes_39 rfl ?_
    refine g_bipush (v := 10) C d_Mo_makes_40 (by decide) ?_
    refine g_icmp_ge C 71 d_Mo_makes_42 (by decide) (fun hc5 => ?_) (fun hc5 => ?_)
    · rw [if_pos hc5] at hF hS
      refine GW.subl [0] rfl ?_
      rw [← hF] at hk
      exact hk
    · rw [if_neg hc5] at hF hS
      refine g_aload_n C d_Mo_makes_45 rfl ?_
      refine m_geta C hE 55 (by decide) (by decide) (by decide) kf_Mo_110 d_Mo_makes_46 ?_
      refine g_bipush (v := 10) C d_Mo_makes_49 (by decide) ?_
      refine g_aload_n C d_Mo_makes_51 rfl ?_
      refine m_geti C hE 56 (by decide) (by decide) kf_Mo_292 d_Mo_makes_52 ?_
      refine g_imul C d_Mo_makes_55 ?_
      refine g_iload_n C d_Mo_makes_56 rfl ?_
      refine g_iadd C d_Mo_makes_57 ?_
      refine g_aload_n C d_Mo_makes_58 rfl ?_
      refine m_geta C hE 53 (by decide) (by decide) (by decide) kf_Mo_104 d_Mo_makes_59 ?_
      refine g_iload_n C d_Mo_makes_62 rfl ?_
      obtain ⟨hi6, hS⟩ := hS
      refine m_lald C hE 53 (by decide) (by decide) hi6 d_Mo_makes_63 ?_
      obtain ⟨hi7, hS⟩ := hS
      refine m_last C hE 55 (by decide) (by decide) hi7 d_Mo_makes_64 ?_
      refine g_iinc (v := x2 + 1) (lv' := [(2, .int (x2 + 1)), (0, .ref mo)]) C d_Mo_makes_65 rfl rfl (by decide) rfl ?_
      refine g_goto C 39 d_Mo_makes_68 (by decide) ?_
      refine GW.subl [1, 0] rfl ?_
      exact ih (mo_al σ 55 ((10 * (σ.1 56)) + x2).toNatClampNeg (σ.2.2.2 53 x2.toNatClampNeg)) (x2 + 1) Fv hS hF hk
def F_Mo_makes (n : Nat) (σ : mSt) (x1 : Int32) : Int32 × mSt := if (σ.1 48) = 1000 then ((0, mo_si σ 46 5)) else (mbind (F_Mo_makes_39 n (mo_ai (mo_si σ 48 ((σ.1 48) + 1)) 54 ((mo_si σ 48 ((σ.1 48) + 1)).1 56).toNatClampNeg x1) 0) (fun w3 => (1, mo_si w3 56 ((w3.1 56) + 1))))
def S_Mo_makes (n : Nat) (σ : mSt) (x1 : Int32) : Prop := if (σ.1 48) = 1000 then (True) else ((vp_in ((mo_si σ 48 ((σ.1 48) + 1)).1 56) 1000) ∧ ((S_Mo_makes_39 n (mo_ai (mo_si σ 48 ((σ.1 48) + 1)) 54 ((mo_si σ 48 ((σ.1 48) + 1)).1 56).toNatClampNeg x1) 0) ∧ (mbind (F_Mo_makes_39 n (mo_ai (mo_si σ 48 ((σ.1 48) + 1)) 54 ((mo_si σ 48 ((σ.1 48) + 1)).1 56).toNatClampNeg x1) 0) (fun w3 => True))))
set_option maxRecDepth 100000 in
set_option maxHeartbeats 4000000 in
theorem mc_Mo_makes (l : Launch) (D : va_G) (cs : Nat → ClassId) (B : Nat) (dE : Nat × Nat) (mo : Nat) (ad : Nat → Nat) (n : Nat) (σ : mSt) (x1 : Int32) (hS : S_Mo_makes n σ x1) : mMet l y_Mo_makes (Cond.code y_Mo_makes c_Mo_makes 3 (some .boolean)) ({ frames := 0, cells := 0, slots := 0, locals := 0 } : Room) D cs B dE mo ad [.ref mo, .int x1] σ (fun r σ' => r = some (.int (F_Mo_makes n σ x1).1) ∧ σ' = (F_Mo_makes n σ x1).2) := by
  refine mMet.ofW (by decide) rfl (Nat.le_of_ble_eq_true rfl) (lv0 := [(0, .ref mo), (1, .int x1)]) rfl ?_
  intro p e s m args below meth c M0 C hE hr hlocks
  generalize hF : F_Mo_makes n σ x1 = Fv
  unfold F_Mo_makes at hF
  unfold S_Mo_makes at hS
  refine g_aload_n C d_Mo_makes_0 rfl ?_
  refine m_geti C hE 48 (by decide) (by decide) kf_Mo_177 d_Mo_makes_1 ?_
  refine g_sipush (v := 1000) C d_Mo_makes_4 (by decide) ?_
  refine g_icmp_ne C 17 d_Mo_makes_7 (by decide) (fun hc1 => ?_) (fun hc1 => ?_)
  · rw [if_neg hc1] at hF hS
    refine g_aload_n C d_Mo_makes_17 rfl ?_
    refine g_dup C d_Mo_makes_18 rfl ?_
    refine m_geti C hE 48 (by decide) (by decide) kf_Mo_177 d_Mo_makes_19 ?_
    refine g_iconst (v := 1) C d_Mo_makes_22 (by decide) ?_
    refine g_iadd C d_Mo_makes_23 ?_
    refine m_puti C hE 48 (by decide) (by decide) rfl rfl kf_Mo_177 d_Mo_makes_24 ?_
    refine g_aload_n C d_Mo_makes_27 rfl ?_
    refine m_geta C hE 54 (by decide) (by decide) (by decide) kf_Mo_107 d_Mo_makes_28 ?_
    refine g_aload_n C d_Mo_makes_31 rfl ?_
    refine m_geti C hE 56 (by decide) (by decide) kf_Mo_292 d_Mo_makes_32 ?_
    refine g_iload_n C d_Mo_makes_35 rfl ?_
    obtain ⟨hi2, hS⟩ := hS
    refine m_ast C hE 54 (by decide) (by decide) hi2 d_Mo_makes_36 ?_
    refine g_iconst (v := 0) C d_Mo_makes_37 (by decide) ?_
    refine g_istore_n (lv' := [(2, .int 0), (0, .ref mo), (1, .int x1)]) C d_Mo_makes_38 (by decide) rfl ?_
    obtain ⟨hs4, hS⟩ := hS
    rw [mbind_eq] at hF hS
    refine GW.subl [1, 0] rfl ?_
    refine w_Mo_makes_39 C hE n (mo_ai (mo_si σ 48 ((σ.1 48) + 1)) 54 ((mo_si σ 48 ((σ.1 48) + 1)).1 56).toNatClampNeg x1) 0 _ hs4 rfl ?_
    generalize F_Mo_makes_39 n (mo_ai (mo_si σ 48 ((σ.1 48) + 1)) 54 ((mo_si σ 48 ((σ.1 48) + 1)).1 56).toNatClampNeg x1) 0 = w3 at hF hS ⊢
    refine g_aload_n C d_Mo_makes_71 rfl ?_
    refine g_dup C d_Mo_makes_72 rfl ?_
    refine m_geti C hE 56 (by decide) (by decide) kf_Mo_292 d_Mo_makes_73 ?_
    refine g_iconst (v := 1) C d_Mo_makes_76 (by decide) ?_
    refine g_iadd C d_Mo_makes_77 ?_
    refine m_puti C hE 56 (by decide) (by decide) rfl rfl kf_Mo_292 d_Mo_makes_78 ?_
    refine g_iconst (v := 1) C d_Mo_makes_81 (by decide) ?_
    exact m_zret C hr hlocks (by decide) d_Mo_makes_82 (by rw [← hF]; exact ⟨rfl, rfl⟩)
  · rw [if_pos hc1] at hF hS
    refine g_aload_n C d_Mo_makes_10 rfl ?_
    refine g_iconst (v := 5) C d_Mo_makes_11 (by decide) ?_
    refine m_puti C hE 46 (by decide) (by decide) rfl rfl kf_Mo_161 d_Mo_makes_12 ?_
    refine g_iconst (v := 0) C d_Mo_makes_15 (by decide) ?_
    exact m_zret C hr hlocks (by decide) d_Mo_makes_16 (by rw [← hF]; exact ⟨rfl, rfl⟩)
def F_Mo_workNode_j181 (n : Nat) (σ : mSt) : mSt := if (σ.1 48) = 1000 then (mo_si σ 46 5) else (mo_si σ 46 6)
def S_Mo_workNode_j181 (n : Nat) (σ : mSt) : Prop := if (σ.1 48) = 1000 then (True) else (True)
set_option maxRecDepth 100000 in
set_option maxHeartbeats 4000000 in
theorem w_Mo_workNode_j181 {p : Program} {l : Launch} {e : Env} {s : State} {m : MethodId} {args : Array Value} {below : List Frame} {meth : Method} {c : Code} {D : va_G} {cs : Nat → ClassId} {B : Nat} {dE : Nat × Nat} {mo : Nat} {ad : Nat → Nat} {M0 : gMem} (C : CallFix p m c c_Mo_workNode 2 s args gT R_Mo) (hE : gEnv D gcl (gtys cs) gz B dE s) (hr : meth.sig.returnType = none) (hlocks : meth.locks = false) (n : Nat) (σ : mSt) (Fv : mSt) (hS : S_Mo_workNode_j181 n σ) (hF : F_Mo_workNode_j181 n σ = Fv) : GW p l e ({ frames := 1, cells := 0, slots := 0, locals := 22 } : Room) s m args below meth c 2 (gA B) (mQ below D cs B mo ad M0 (fun r σ' => r = none ∧ σ' = Fv) args s) (mo_P D B cs mo ad M0 σ) 0 0 181 [(0, .ref mo)] [] := by
  unfold F_Mo_workNode_j181 at hF
  unfold S_Mo_workNode_j181 at hS
  refine g_aload_n C d_Mo_workNode_181 rfl ?_
  refine g_aload_n C d_Mo_workNode_182 rfl ?_
  refine m_geti C hE 48 (by decide) (by decide) kf_Mo_177 d_Mo_workNode_183 ?_
  refine g_sipush (v := 1000) C d_Mo_workNode_186 (by decide) ?_
  refine g_icmp_ne C 196 d_Mo_workNode_189 (by decide) (fun hc58 => ?_) (fun hc58 => ?_)
  · rw [if_neg hc58] at hF hS
    refine g_bipush (v := 6) C d_Mo_workNode_196 (by decide) ?_
    refine m_puti C hE 46 (by decide) (by decide) rfl rfl kf_Mo_161 d_Mo_workNode_198 ?_
    refine g_goto C 257 d_Mo_workNode_201 (by decide) ?_
    exact m_vret C hr hlocks d_Mo_workNode_257 (by rw [← hF]; exact ⟨rfl, rfl⟩)
  · rw [if_pos hc58] at hF hS
    refine g_iconst (v := 5) C d_Mo_workNode_192 (by decide) ?_
    refine g_goto C 198 d_Mo_workNode_193 (by decide) ?_
    refine m_puti C hE 46 (by decide) (by decide) rfl rfl kf_Mo_161 d_Mo_workNode_198 ?_
    refine g_goto C 257 d_Mo_workNode_201 (by decide) ?_
    exact m_vret C hr hlocks d_Mo_workNode_257 (by rw [← hF]; exact ⟨rfl, rfl⟩)
def F_Mo_workNode (n : Nat) (σ : mSt) : mSt := if (σ.2.2.1 5 (σ.1 45).toNatClampNeg) = 0 then (mbind (F_Mo_give σ ((σ.2.2.1 6 (σ.1 45).toNatClampNeg).toInt64)) (fun w4 => w4)) else (if (σ.2.2.1 5 (σ.1 45).toNatClampNeg) = 1 then (mbind (F_Mo_give σ ((σ.2.2.1 6 (σ.1 45).toNatClampNeg).toInt64)) (fun w8 => w8)) else (if (σ.2.2.1 5 (σ.1 45).toNatClampNeg) = 2 then (mbind (F_Mo_give σ 0) (fun w11 => w11)) else (if (σ.2.2.1 5 (σ.1 45).toNatClampNeg) = 3 then (mbind (F_Mo_give σ (σ.2.2.2 53 (σ.2.2.1 6 (σ.1 45).toNatClampNeg).toNatClampNeg)) (fun w16 => w16)) else (if (σ.2.2.1 5 (σ.1 45).toNatClampNeg) = 4 then (mbind (F_Mo_push n σ (σ.1 45)) (fun w19 => mbind (F_Mo_work w19 (w19.2.2.1 9 (σ.1 45).toNatClampNeg)) (fun w22 => w22))) else (if (σ.2.2.1 5 (σ.1 45).toNatClampNeg) = 5 then (mbind (F_Mo_makes n σ (σ.1 45)) (fun w25 => if w25.1 = 0 then (w25.2) else (mbind (F_Mo_work (mo_al w25.2 53 (w25.2.2.2.1 6 (σ.1 45).toNatClampNeg).toNatClampNeg (((w25.2.1 56) - 1).toInt64)) ((mo_al w25.2 53 (w25.2.2.2.1 6 (σ.1 45).toNatClampNeg).toNatClampNeg (((w25.2.1 56) - 1).toInt64)).2.2.1 10 (σ.1 45).toNatClampNeg)) (fun w31 => w31)))) else (if (σ.2.2.1 5 (σ.1 45).toNatClampNeg) = 6 then (mbind (F_Mo_push n σ (σ.1 45)) (fun w34 => mbind (F_Mo_work w34 (w34.2.2.1 9 (σ.1 45).toNatClampNeg)) (fun w37 => w37))) else (if (σ.2.2.1 5 (σ.1 45).toNatClampNeg) = 7 then (mbind (F_Mo_makes n σ (σ.1 45)) (fun w40 => if w40.1 = 0 then (w40.2) else (mbind (F_Mo_give w40.2 (((w40.2.1 56) - 1).toInt64)) (fun w43 => w43)))) else (if (σ.2.2.1 5 (σ.1 45).toNatClampNeg) = 8 then (if (σ.1 48) = 1000 then (F_Mo_workNode_j181 n σ ) else (if (σ.1 49) = 400 then (F_Mo_workNode_j181 n σ ) else (mbind (F_Mo_push n (mo_si (mo_si σ 48 ((σ.1 48) + 1)) 49 (((mo_si σ 48 ((σ.1 48) + 1)).1 49) + 1)) (σ.1 45)) (fun w48 => mbind (F_Mo_work w48 (w48.2.2.1 9 (σ.1 45).toNatClampNeg)) (fun w51 => w51))))) else (mbind (F_Mo_push n σ (σ.1 45)) (fun w53 => mbind (F_Mo_work w53 (w53.2.2.1 9 (σ.1 45).toNatClampNeg)) (fun w56 => w56)))))))))))
def S_Mo_workNode (n : Nat) (σ : mSt) : Prop := (vp_in (σ.1 45) 200) ∧ (if (σ.2.2.1 5 (σ.1 45).toNatClampNeg) = 0 then ((vp_in (σ.1 45) 200) ∧ ((S_Mo_give σ ((σ.2.2.1 6 (σ.1 45).toNatClampNeg).toInt64)) ∧ (mbind (F_Mo_give σ ((σ.2.2.1 6 (σ.1 45).toNatClampNeg).toInt64)) (fun w4 => True)))) else (if (σ.2.2.1 5 (σ.1 45).toNatClampNeg) = 1 then ((vp_in (σ.1 45) 200) ∧ ((S_Mo_give σ ((σ.2.2.1 6 (σ.1 45).toNatClampNeg).toInt64)) ∧ (mbind (F_Mo_give σ ((σ.2.2.1 6 (σ.1 45).toNatClampNeg).toInt64)) (fun w8 => True)))) else (if (σ.2.2.1 5 (σ.1 45).toNatClampNeg) = 2 then ((S_Mo_give σ 0) ∧ (mbind (F_Mo_give σ 0) (fun w11 => True))) else (if (σ.2.2.1 5 (σ.1 45).toNatClampNeg) = 3 then ((vp_in (σ.1 45) 200) ∧ ((vp_in (σ.2.2.1 6 (σ.1 45).toNatClampNeg) 10) ∧ ((S_Mo_give σ (σ.2.2.2 53 (σ.2.2.1 6 (σ.1 45).toNatClampNeg).toNatClampNeg)) ∧ (mbind (F_Mo_give σ (σ.2.2.2 53 (σ.2.2.1 6 (σ.1 45).toNatClampNeg).toNatClampNeg)) (fun w16 => True))))) else (if (σ.2.2.1 5 (σ.1 45).toNatClampNeg) = 4 then ((S_Mo_push n σ (σ.1 45)) ∧ (mbind (F_Mo_push n σ (σ.1 45)) (fun w19 => (vp_in (σ.1 45) 200) ∧ ((S_Mo_work w19 (w19.2.2.1 9 (σ.1 45).toNatClampNeg)) ∧ (mbind (F_Mo_work w19 (w19.2.2.1 9 (σ.1 45).toNatClampNeg)) (fun w22 => True)))))) else (if (σ.2.2.1 5 (σ.1 45).toNatClampNeg) = 5 then ((S_Mo_makes n σ (σ.1 45)) ∧ (mbind (F_Mo_makes n σ (σ.1 45)) (fun w25 => if w25.1 = 0 then (True) else ((vp_in (σ.1 45) 200) ∧ ((vp_in (w25.2.2.2.1 6 (σ.1 45).toNatClampNeg) 10) ∧ ((vp_in (σ.1 45) 200) ∧ ((S_Mo_work (mo_al w25.2 53 (w25.2.2.2.1 6 (σ.1 45).toNatClampNeg).toNatClampNeg (((w25.2.1 56) - 1).toInt64)) ((mo_al w25.2 53 (w25.2.2.2.1 6 (σ.1 45).toNatClampNeg).toNatClampNeg (((w25.2.1 56) - 1).toInt64)).2.2.1 10 (σ.1 45).toNatClampNeg)) ∧ (mbind (F_Mo_work (mo_al w25.2 53 (w25.2.2.2.1 6 (σ.1 45).toNatClampNeg).toNatClampNeg (((w25.2.1 56) - 1).toInt64)) ((mo_al w25.2 53 (w25.2.2.2.1 6 (σ.1 45).toNatClampNeg).toNatClampNeg (((w25.2.1 56) - 1).toInt64)).2.2.1 10 (σ.1 45).toNatClampNeg)) (fun w31 => True))))))))) else (if (σ.2.2.1 5 (σ.1 45).toNatClampNeg) = 6 then ((S_Mo_push n σ (σ.1 45)) ∧ (mbind (F_Mo_push n σ (σ.1 45)) (fun w34 => (vp_in (σ.1 45) 200) ∧ ((S_Mo_work w34 (w34.2.2.1 9 (σ.1 45).toNatClampNeg)) ∧ (mbind (F_Mo_work w34 (w34.2.2.1 9 (σ.1 45).toNatClampNeg)) (fun w37 => True)))))) else (if (σ.2.2.1 5 (σ.1 45).toNatClampNeg) = 7 then ((S_Mo_makes n σ (σ.1 45)) ∧ (mbind (F_Mo_makes n σ (σ.1 45)) (fun w40 => if w40.1 = 0 then (True) else ((S_Mo_give w40.2 (((w40.2.1 56) - 1).toInt64)) ∧ (mbind (F_Mo_give w40.2 (((w40.2.1 56) - 1).toInt64)) (fun w43 => True)))))) else (if (σ.2.2.1 5 (σ.1 45).toNatClampNeg) = 8 then (if (σ.1 48) = 1000 then (S_Mo_workNode_j181 n σ ) else (if (σ.1 49) = 400 then (S_Mo_workNode_j181 n σ ) else ((S_Mo_push n (mo_si (mo_si σ 48 ((σ.1 48) + 1)) 49 (((mo_si σ 48 ((σ.1 48) + 1)).1 49) + 1)) (σ.1 45)) ∧ (mbind (F_Mo_push n (mo_si (mo_si σ 48 ((σ.1 48) + 1)) 49 (((mo_si σ 48 ((σ.1 48) + 1)).1 49) + 1)) (σ.1 45)) (fun w48 => (vp_in (σ.1 45) 200) ∧ ((S_Mo_work w48 (w48.2.2.1 9 (σ.1 45).toNatClampNeg)) ∧ (mbind (F_Mo_work w48 (w48.2.2.1 9 (σ.1 45).toNatClampNeg)) (fun w51 => True)))))))) else ((S_Mo_push n σ (σ.1 45)) ∧ (mbind (F_Mo_push n σ (σ.1 45)) (fun w53 => (vp_in (σ.1 45) 200) ∧ ((S_Mo_work w53 (w53.2.2.1 9 (σ.1 45).toNatClampNeg)) ∧ (mbind (F_Mo_work w53 (w53.2.2.1 9 (σ.1 45).toNatClampNeg)) (fun w56 => True)))))))))))))))
set_option maxRecDepth 100000 in
set_option maxHeartbeats 4000000 in
theorem mc_Mo_workNode (l : Launch) (D : va_G) (cs : Nat → ClassId) (B : Nat) (dE : Nat × Nat) (mo : Nat) (ad : Nat → Nat) (n : Nat) (σ : mSt) (hS : S_Mo_workNode n σ) : mMet l y_Mo_workNode (Cond.code y_Mo_workNode c_Mo_workNode 2 none) ({ frames := 1, cells := 0, slots := 0, locals := 22 } : Room) D cs B dE mo ad [.ref mo] σ (fun r σ' => r = none ∧ σ' = F_Mo_workNode n σ) := by
  refine mMet.ofW (by decide) rfl (Nat.le_of_ble_eq_true rfl) (lv0 := [(0, .ref mo)]) rfl ?_
  intro p e s m args below meth c M0 C hE hr hlocks
  generalize hF : F_Mo_workNode n σ = Fv
  unfold F_Mo_workNode at hF
  unfold S_Mo_workNode at hS
  refine g_aload_n C d_Mo_workNode_0 rfl ?_
  refine m_geti C hE 45 (by decide) (by decide) kf_Mo_286 d_Mo_workNode_1 ?_
  refine g_istore_n (lv' := [(1, .int (σ.1 45)), (0, .ref mo)]) C d_Mo_workNode_4 (by decide) rfl ?_
  refine g_aload_n C d_Mo_workNode_5 rfl ?_
  refine m_geta C hE 5 (by decide) (by decide) (by decide) kf_Mo_7 d_Mo_workNode_6 ?_
  refine g_iload_n C d_Mo_workNode_9 rfl ?_
  obtain ⟨hi1, hS⟩ := hS
  refine m_ald C hE 5 (by decide) (by decide) hi1 d_Mo_workNode_10 ?_
  by_cases hc2 : (σ.2.2.1 5 (σ.1 45).toNatClampNeg) = 0
  · rw [if_pos hc2] at hF hS
    refine g_tableIn C 60 d_Mo_workNode_11 (by rw [hc2]; decide) (by rw [hc2]; decide) (by rw [hc2]; rfl) (by decide) ?_
    refine g_aload_n C d_Mo_workNode_60 rfl ?_
    refine g_aload_n C d_Mo_workNode_61 rfl ?_
    refine m_geta C hE 6 (by decide) (by decide) (by decide) kf_Mo_13 d_Mo_workNode_62 ?_
    refine g_iload_n C d_Mo_workNode_65 rfl ?_
    obtain ⟨hi3, hS⟩ := hS
    refine m_ald C hE 6 (by decide) (by decide) hi3 d_Mo_workNode_66 ?_
    refine g_i2l C d_Mo_workNode_67 rfl ?_
    obtain ⟨hs5, hS⟩ := hS
    refine m_callV (n := 1) (av := [.long ((σ.2.2.1 6 (σ.1 45).toNatClampNeg).toInt64)]) (rest := []) C hE (mc_Mo_give l D cs B dE mo ad _ _ hs5) km_Mo_301 kv_Mo_give kl_Mo_give kd_Mo_give ki_Mo ⟨rfl, by decide, by decide, by decide⟩ rfl ⟨rfl, rfl⟩ (by decide) (by decide) d_Mo_workNode_68 (Nat.le_of_ble_eq_true rfl) _ rfl (fun v1 σ1 hv => ?_)
    obtain ⟨rfl, rfl⟩ := hv
    rw [mbind_eq] at hF hS
    generalize F_Mo_give σ ((σ.2.2.1 6 (σ.1 45).toNatClampNeg).toInt64) = w4 at hF hS ⊢
    refine GW.eqs (st' := []) rfl ?_
    refine g_goto C 257 d_Mo_workNode_71 (by decide) ?_
    exact m_vret C hr hlocks d_Mo_workNode_257 (by rw [← hF]; exact ⟨rfl, rfl⟩)
  · rw [if_neg hc2] at hF hS
    by_cases hc6 : (σ.2.2.1 5 (σ.1 45).toNatClampNeg) = 1
    · rw [if_pos hc6] at hF hS
      refine g_tableIn C 60 d_Mo_workNode_11 (by rw [hc6]; decide) (by rw [hc6]; decide) (by rw [hc6]; rfl) (by decide) ?_
      refine g_aload_n C d_Mo_workNode_60 rfl ?_
      refine g_aload_n C d_Mo_workNode_61 rfl ?_
      refine m_geta C hE 6 (by decide) (by decide) (by decide) kf_Mo_13 d_Mo_workNode_62 ?_
      refine g_iload_n C d_Mo_workNode_65 rfl ?_
      obtain ⟨hi7, hS⟩ := hS
      refine m_ald C hE 6 (by decide) (by decide) hi7 d_Mo_workNode_66 ?_
      refine g_i2l C d_Mo_workNode_67 rfl ?_
      obtain ⟨hs9, hS⟩ := hS
      refine m_callV (n := 1) (av := [.long ((σ.2.2.1 6 (σ.1 45).toNatClampNeg).toInt64)]) (rest := []) C hE (mc_Mo_give l D cs B dE mo ad _ _ hs9) km_Mo_301 kv_Mo_give kl_Mo_give kd_Mo_give ki_Mo ⟨rfl, by decide, by decide, by decide⟩ rfl ⟨rfl, rfl⟩ (by decide) (by decide) d_Mo_workNode_68 (Nat.le_of_ble_eq_true rfl) _ rfl (fun v1 σ1 hv => ?_)
      obtain ⟨rfl, rfl⟩ := hv
      rw [mbind_eq] at hF hS
      generalize F_Mo_give σ ((σ.2.2.1 6 (σ.1 45).toNatClampNeg).toInt64) = w8 at hF hS ⊢
      refine GW.eqs (st' := []) rfl ?_
      refine g_goto C 257 d_Mo_workNode_71 (by decide) ?_
      exact m_vret C hr hlocks d_Mo_workNode_257 (by rw [← hF]; exact ⟨rfl, rfl⟩)
    · rw [if_neg hc6] at hF hS
      by_cases hc10 : (σ.2.2.1 5 (σ.1 45).toNatClampNeg) = 2
      · rw [if_pos hc10] at hF hS
        refine g_tableIn C 74 d_Mo_workNode_11 (by rw [hc10]; decide) (by rw [hc10]; decide) (by rw [hc10]; rfl) (by decide) ?_
        refine g_aload_n C d_Mo_workNode_74 rfl ?_
        refine g_lconst (v := 0) C d_Mo_workNode_75 (by decide) ?_
        obtain ⟨hs12, hS⟩ := hS
        refine m_callV (n := 1) (av := [.long 0]) (rest := []) C hE (mc_Mo_give l D cs B dE mo ad _ _ hs12) km_Mo_301 kv_Mo_give kl_Mo_give kd_Mo_give ki_Mo ⟨rfl, by decide, by decide, by decide⟩ rfl ⟨rfl, rfl⟩ (by decide) (by decide) d_Mo_workNode_76 (Nat.le_of_ble_eq_true rfl) _ rfl (fun v1 σ1 hv => ?_)
        obtain ⟨rfl, rfl⟩ := hv
        rw [mbind_eq] at hF hS
        generalize F_Mo_give σ 0 = w11 at hF hS ⊢
        refine GW.eqs (st' := []) rfl ?_
        refine g_goto C 257 d_Mo_workNode_79 (by decide) ?_
        exact m_vret C hr hlocks d_Mo_workNode_257 (by rw [← hF]; exact ⟨rfl, rfl⟩)
      · rw [if_neg hc10] at hF hS
        by_cases hc13 : (σ.2.2.1 5 (σ.1 45).toNatClampNeg) = 3
        · rw [if_pos hc13] at hF hS
          refine g_tableIn C 82 d_Mo_workNode_11 (by rw [hc13]; decide) (by rw [hc13]; decide) (by rw [hc13]; rfl) (by decide) ?_
          refine g_aload_n C d_Mo_workNode_82 rfl ?_
          refine g_aload_n C d_Mo_workNode_83 rfl ?_
          refine m_geta C hE 53 (by decide) (by decide) (by decide) kf_Mo_104 d_Mo_workNode_84 ?_
          refine g_aload_n C d_Mo_workNode_87 rfl ?_
          refine m_geta C hE 6 (by decide) (by decide) (by decide) kf_Mo_13 d_Mo_workNode_88 ?_
          refine g_iload_n C d_Mo_workNode_91 rfl ?_
          obtain ⟨hi14, hS⟩ := hS
          refine m_ald C hE 6 (by decide) (by decide) hi14 d_Mo_workNode_92 ?_
          obtain ⟨hi15, hS⟩ := hS
          refine m_lald C hE 53 (by decide) (by decide) hi15 d_Mo_workNode_93 ?_
          obtain ⟨hs17, hS⟩ := hS
          refine m_callV (n := 1) (av := [.long (σ.2.2.2 53 (σ.2.2.1 6 (σ.1 45).toNatClampNeg).toNatClampNeg)]) (rest := []) C hE (mc_Mo_give l D cs B dE mo ad _ _ hs17) km_Mo_301 kv_Mo_give kl_Mo_give kd_Mo_give ki_Mo ⟨rfl, by decide, by decide, by decide⟩ rfl ⟨rfl, rfl⟩ (by decide) (by decide) d_Mo_workNode_94 (Nat.le_of_ble_eq_true rfl) _ rfl (fun v1 σ1 hv => ?_)
          obtain ⟨rfl, rfl⟩ := hv
          rw [mbind_eq] at hF hS
          generalize F_Mo_give σ (σ.2.2.2 53 (σ.2.2.1 6 (σ.1 45).toNatClampNeg).toNatClampNeg) = w16 at hF hS ⊢
          refine GW.eqs (st' := []) rfl ?_
          refine g_goto C 257 d_Mo_workNode_97 (by decide) ?_
          exact m_vret C hr hlocks d_Mo_workNode_257 (by rw [← hF]; exact ⟨rfl, rfl⟩)
        · rw [if_neg hc13] at hF hS
          by_cases hc18 : (σ.2.2.1 5 (σ.1 45).toNatClampNeg) = 4
          · rw [if_pos hc18] at hF hS
            refine g_tableIn C 242 d_Mo_workNode_11 (by rw [hc18]; decide) (by rw [hc18]; decide) (by rw [hc18]; rfl) (by decide) ?_
            refine g_aload_n C d_Mo_workNode_242 rfl ?_
            refine g_iload_n C d_Mo_workNode_243 rfl ?_
            obtain ⟨hs20, hS⟩ := hS
            refine m_callV (n := 1) (av := [.int (σ.1 45)]) (rest := []) C hE (mc_Mo_push l D cs B dE mo ad n _ _ hs20) km_Mo_311 kv_Mo_push kl_Mo_push kd_Mo_push ki_Mo ⟨rfl, by decide, by decide, by decide⟩ rfl ⟨rfl, rfl⟩ (by decide) (by decide) d_Mo_workNode_244 (Nat.le_of_ble_eq_true rfl) _ rfl (fun v1 σ1 hv => ?_)
            obtain ⟨rfl, rfl⟩ := hv
            rw [mbind_eq] at hF hS
            generalize F_Mo_push n σ (σ.1 45) = w19 at hF hS ⊢
            refine GW.eqs (st' := []) rfl ?_
            refine g_aload_n C d_Mo_workNode_247 rfl ?_
            refine g_aload_n C d_Mo_workNode_248 rfl ?_
            refine m_geta C hE 9 (by decide) (by decide) (by decide) kf_Mo_22 d_Mo_workNode_249 ?_
            refine g_iload_n C d_Mo_workNode_252 rfl ?_
            obtain ⟨hi21, hS⟩ := hS
            refine m_ald C hE 9 (by decide) (by decide) hi21 d_Mo_workNode_253 ?_
            obtain ⟨hs23, hS⟩ := hS
            refine m_callV (n := 1) (av := [.int (w19.2.2.1 9 (σ.1 45).toNatClampNeg)]) (rest := []) C hE (mc_Mo_work l D cs B dE mo ad _ _ hs23) km_Mo_308 kv_Mo_work kl_Mo_work kd_Mo_work ki_Mo ⟨rfl, by decide, by decide, by decide⟩ rfl ⟨rfl, rfl⟩ (by decide) (by decide) d_Mo_workNode_254 (Nat.le_of_ble_eq_true rfl) _ rfl (fun v1 σ1 hv => ?_)
            obtain ⟨rfl, rfl⟩ := hv
            rw [mbind_eq] at hF hS
            generalize F_Mo_work w19 (w19.2.2.1 9 (σ.1 45).toNatClampNeg) = w22 at hF hS ⊢
            refine GW.eqs (st' := []) rfl ?_
            exact m_vret C hr hlocks d_Mo_workNode_257 (by rw [← hF]; exact ⟨rfl, rfl⟩)
          · rw [if_neg hc18] at hF hS
            by_cases hc24 : (σ.2.2.1 5 (σ.1 45).toNatClampNeg) = 5
            · rw [if_pos hc24] at hF hS
              refine g_tableIn C 100 d_Mo_workNode_11 (by rw [hc24]; decide) (by rw [hc24]; decide) (by rw [hc24]; rfl) (by decide) ?_
              refine g_aload_n C d_Mo_workNode_100 rfl ?_
              refine g_iload_n C d_Mo_workNode_101 rfl ?_
              obtain ⟨hs26, hS⟩ := hS
              refine m_callV (n := 1) (av := [.int (σ.1 45)]) (rest := []) C hE (mc_Mo_makes l D cs B dE mo ad n _ _ hs26) km_Mo_305 kv_Mo_makes kl_Mo_makes kd_Mo_makes ki_Mo ⟨rfl, by decide, by decide, by decide⟩ rfl ⟨rfl, rfl⟩ (by decide) (by decide) d_Mo_workNode_102 (Nat.le_of_ble_eq_true rfl) _ rfl (fun v1 σ1 hv => ?_)
              obtain ⟨rfl, rfl⟩ := hv
              rw [mbind_eq] at hF hS
              generalize F_Mo_makes n σ (σ.1 45) = w25 at hF hS ⊢
              refine GW.eqs (st' := [.int w25.1]) rfl ?_
              refine g_if_eq C 257 d_Mo_workNode_105 (by decide) (fun hc27 => ?_) (fun hc27 => ?_)
              · rw [if_pos hc27] at hF hS
                exact m_vret C hr hlocks d_Mo_workNode_257 (by rw [← hF]; exact ⟨rfl, rfl⟩)
              · rw [if_neg hc27] at hF hS
                refine g_aload_n C d_Mo_workNode_108 rfl ?_
                refine m_geta C hE 53 (by decide) (by decide) (by decide) kf_Mo_104 d_Mo_workNode_109 ?_
                refine g_aload_n C d_Mo_workNode_112 rfl ?_
                refine m_geta C hE 6 (by decide) (by decide) (by decide) kf_Mo_13 d_Mo_workNode_113 ?_
                refine g_iload_n C d_Mo_workNode_116 rfl ?_
                obtain ⟨hi28, hS⟩ := hS
                refine m_ald C hE 6 (by decide) (by decide) hi28 d_Mo_workNode_117 ?_
                refine g_aload_n C d_Mo_workNode_118 rfl ?_
                refine m_geti C hE 56 (by decide) (by decide) kf_Mo_292 d_Mo_workNode_119 ?_
                refine g_iconst (v := 1) C d_Mo_workNode_122 (by decide) ?_
                refine g_isub C d_Mo_workNode_123 ?_
                refine g_i2l C d_Mo_workNode_124 rfl ?_
                obtain ⟨hi29, hS⟩ := hS
                refine m_last C hE 53 (by decide) (by decide) hi29 d_Mo_workNode_125 ?_
                refine g_aload_n C d_Mo_workNode_126 rfl ?_
                refine g_aload_n C d_Mo_workNode_127 rfl ?_
                refine m_geta C hE 10 (by decide) (by decide) (by decide) kf_Mo_25 d_Mo_workNode_128 ?_
                refine g_iload_n C d_Mo_workNode_131 rfl ?_
                obtain ⟨hi30, hS⟩ := hS
                refine m_ald C hE 10 (by decide) (by decide) hi30 d_Mo_workNode_132 ?_
                obtain ⟨hs32, hS⟩ := hS
                refine m_callV (n := 1) (av := [.int ((mo_al w25.2 53 (w25.2.2.2.1 6 (σ.1 45).toNatClampNeg).toNatClampNeg (((w25.2.1 56) - 1).toInt64)).2.2.1 10 (σ.1 45).toNatClampNeg)]) (rest := []) C hE (mc_Mo_work l D cs B dE mo ad _ _ hs32) km_Mo_308 kv_Mo_work kl_Mo_work kd_Mo_work ki_Mo ⟨rfl, by decide, by decide, by decide⟩ rfl ⟨rfl, rfl⟩ (by decide) (by decide) d_Mo_workNode_133 (Nat.le_of_ble_eq_true rfl) _ rfl (fun v1 σ1 hv => ?_)
                obtain ⟨rfl, rfl⟩ := hv
                rw [mbind_eq] at hF hS
                generalize F_Mo_work (mo_al w25.2 53 (w25.2.2.2.1 6 (σ.1 45).toNatClampNeg).toNatClampNeg (((w25.2.1 56) - 1).toInt64)) ((mo_al w25.2 53 (w25.2.2.2.1 6 (σ.1 45).toNatClampNeg).toNatClampNeg (((w25.2.1 56) - 1).toInt64)).2.2.1 10 (σ.1 45).toNatClampNeg) = w31 at hF hS ⊢
                refine GW.eqs (st' := []) rfl ?_
                refine g_goto C 257 d_Mo_workNode_136 (by decide) ?_
                exact m_vret C hr hlocks d_Mo_workNode_257 (by rw [← hF]; exact ⟨rfl, rfl⟩)
            · rw [if_neg hc24] at hF hS
              by_cases hc33 : (σ.2.2.1 5 (σ.1 45).toNatClampNeg) = 6
              · rw [if_pos hc33] at hF hS
                refine g_tableIn C 242 d_Mo_workNode_11 (by rw [hc33]; decide) (by rw [hc33]; decide) (by rw [hc33]; rfl) (by decide) ?_
                refine g_aload_n C d_Mo_workNode_242 rfl ?_
                refine g_iload_n C d_Mo_workNode_243 rfl ?_
                obtain ⟨hs35, hS⟩ := hS
                refine m_callV (n := 1) (av := [.int (σ.1 45)]) (rest := []) C hE (mc_Mo_push l D cs B dE mo ad n _ _ hs35) km_Mo_311 kv_Mo_push kl_Mo_push kd_Mo_push ki_Mo ⟨rfl, by decide, by decide, by decide⟩ rfl ⟨rfl, rfl⟩ (by decide) (by decide) d_Mo_workNode_244 (Nat.le_of_ble_eq_true rfl) _ rfl (fun v1 σ1 hv => ?_)
                obtain ⟨rfl, rfl⟩ := hv
                rw [mbind_eq] at hF hS
                generalize F_Mo_push n σ (σ.1 45) = w34 at hF hS ⊢
                refine GW.eqs (st' := []) rfl ?_
                refine g_aload_n C d_Mo_workNode_247 rfl ?_
                refine g_aload_n C d_Mo_workNode_248 rfl ?_
                refine m_geta C hE 9 (by decide) (by decide) (by decide) kf_Mo_22 d_Mo_workNode_249 ?_
                refine g_iload_n C d_Mo_workNode_252 rfl ?_
                obtain ⟨hi36, hS⟩ := hS
                refine m_ald C hE 9 (by decide) (by decide) hi36 d_Mo_workNode_253 ?_
                obtain ⟨hs38, hS⟩ := hS
                refine m_callV (n := 1) (av := [.int (w34.2.2.1 9 (σ.1 45).toNatClampNeg)]) (rest := []) C hE (mc_Mo_work l D cs B dE mo ad _ _ hs38) km_Mo_308 kv_Mo_work kl_Mo_work kd_Mo_work ki_Mo ⟨rfl, by decide, by decide, by decide⟩ rfl ⟨rfl, rfl⟩ (by decide) (by decide) d_Mo_workNode_254 (Nat.le_of_ble_eq_true rfl) _ rfl (fun v1 σ1 hv => ?_)
                obtain ⟨rfl, rfl⟩ := hv
                rw [mbind_eq] at hF hS
                generalize F_Mo_work w34 (w34.2.2.1 9 (σ.1 45).toNatClampNeg) = w37 at hF hS ⊢
                refine GW.eqs (st' := []) rfl ?_
                exact m_vret C hr hlocks d_Mo_workNode_257 (by rw [← hF]; exact ⟨rfl, rfl⟩)
              · rw [if_neg hc33] at hF hS
                by_cases hc39 : (σ.2.2.1 5 (σ.1 45).toNatClampNeg) = 7
                · rw [if_pos hc39] at hF hS
                  refine g_tableIn C 139 d_Mo_workNode_11 (by rw [hc39]; decide) (by rw [hc39]; decide) (by rw [hc39]; rfl) (by decide) ?_
                  refine g_aload_n C d_Mo_workNode_139 rfl ?_
                  refine g_iload_n C d_Mo_workNode_140 rfl ?_
                  obtain ⟨hs41, hS⟩ := hS
                  refine m_callV (n := 1) (av := [.int (σ.1 45)]) (rest := []) C hE (mc_Mo_makes l D cs B dE mo ad n _ _ hs41) km_Mo_305 kv_Mo_makes kl_Mo_makes kd_Mo_makes ki_Mo ⟨rfl, by decide, by decide, by decide⟩ rfl ⟨rfl, rfl⟩ (by decide) (by decide) d_Mo_workNode_141 (Nat.le_of_ble_eq_true rfl) _ rfl (fun v1 σ1 hv => ?_)
                  obtain ⟨rfl, rfl⟩ := hv
                  rw [mbind_eq] at hF hS
                  generalize F_Mo_makes n σ (σ.1 45) = w40 at hF hS ⊢
                  refine GW.eqs (st' := [.int w40.1]) rfl ?_
                  refine g_if_eq C 257 d_Mo_workNode_144 (by decide) (fun hc42 => ?_) (fun hc42 => ?_)
                  · rw [if_pos hc42] at hF hS
                    exact m_vret C hr hlocks d_Mo_workNode_257 (by rw [← hF]; exact ⟨rfl, rfl⟩)
                  · rw [if_neg hc42] at hF hS
                    refine g_aload_n C d_Mo_workNode_147 rfl ?_
                    refine g_aload_n C d_Mo_workNode_148 rfl ?_
                    refine m_geti C hE 56 (by decide) (by decide) kf_Mo_292 d_Mo_workNode_149 ?_
                    refine g_iconst (v := 1) C d_Mo_workNode_152 (by decide) ?_
                    refine g_isub C d_Mo_workNode_153 ?_
                    refine g_i2l C d_Mo_workNode_154 rfl ?_
                    obtain ⟨hs44, hS⟩ := hS
                    refine m_callV (n := 1) (av := [.long (((w40.2.1 56) - 1).toInt64)]) (rest := []) C hE (mc_Mo_give l D cs B dE mo ad _ _ hs44) km_Mo_301 kv_Mo_give kl_Mo_give kd_Mo_give ki_Mo ⟨rfl, by decide, by decide, by decide⟩ rfl ⟨rfl, rfl⟩ (by decide) (by decide) d_Mo_workNode_155 (Nat.le_of_ble_eq_true rfl) _ rfl (fun v1 σ1 hv => ?_)
                    obtain ⟨rfl, rfl⟩ := hv
                    rw [mbind_eq] at hF hS
                    generalize F_Mo_give w40.2 (((w40.2.1 56) - 1).toInt64) = w43 at hF hS ⊢
                    refine GW.eqs (st' := []) rfl ?_
                    refine g_goto C 257 d_Mo_workNode_158 (by decide) ?_
                    exact m_vret C hr hlocks d_Mo_workNode_257 (by rw [← hF]; exact ⟨rfl, rfl⟩)
                · rw [if_neg hc39] at hF hS
                  by_cases hc45 : (σ.2.2.1 5 (σ.1 45).toNatClampNeg) = 8
                  · rw [if_pos hc45] at hF hS
                    refine g_tableIn C 161 d_Mo_workNode_11 (by rw [hc45]; decide) (by rw [hc45]; decide) (by rw [hc45]; rfl) (by decide) ?_
                    refine g_aload_n C d_Mo_workNode_161 rfl ?_
                    refine m_geti C hE 48 (by decide) (by decide) kf_Mo_177 d_Mo_workNode_162 ?_
                    refine g_sipush (v := 1000) C d_Mo_workNode_165 (by decide) ?_
                    refine g_icmp_eq C 181 d_Mo_workNode_168 (by decide) (fun hc46 => ?_) (fun hc46 => ?_)
                    · rw [if_pos hc46] at hF hS
                      refine GW.subl [1] rfl ?_
                      exact w_Mo_workNode_j181 C hE hr hlocks n σ  Fv hS hF
                    · rw [if_neg hc46] at hF hS
                      refine g_aload_n C d_Mo_workNode_171 rfl ?_
                      refine m_geti C hE 49 (by decide) (by decide) kf_Mo_180 d_Mo_workNode_172 ?_
                      refine g_sipush (v := 400) C d_Mo_workNode_175 (by decide) ?_
                      refine g_icmp_ne C 204 d_Mo_workNode_178 (by decide) (fun hc47 => ?_) (fun hc47 => ?_)
                      · rw [if_neg hc47] at hF hS
                        refine g_aload_n C d_Mo_workNode_204 rfl ?_
                        refine g_dup C d_Mo_workNode_205 rfl ?_
                        refine m_geti C hE 48 (by decide) (by decide) kf_Mo_177 d_Mo_workNode_206 ?_
                        refine g_iconst (v := 1) C d_Mo_workNode_209 (by decide) ?_
                        refine g_iadd C d_Mo_workNode_210 ?_
                        refine m_puti C hE 48 (by decide) (by decide) rfl rfl kf_Mo_177 d_Mo_workNode_211 ?_
                        refine g_aload_n C d_Mo_workNode_214 rfl ?_
                        refine g_dup C d_Mo_workNode_215 rfl ?_
                        refine m_geti C hE 49 (by decide) (by decide) kf_Mo_180 d_Mo_workNode_216 ?_
                        refine g_iconst (v := 1) C d_Mo_workNode_219 (by decide) ?_
                        refine g_iadd C d_Mo_workNode_220 ?_
                        refine m_puti C hE 49 (by decide) (by decide) rfl rfl kf_Mo_180 d_Mo_workNode_221 ?_
                        refine g_aload_n C d_Mo_workNode_224 rfl ?_
                        refine g_iload_n C d_Mo_workNode_225 rfl ?_
                        obtain ⟨hs49, hS⟩ := hS
                        refine m_callV (n := 1) (av := [.int (σ.1 45)]) (rest := []) C hE (mc_Mo_push l D cs B dE mo ad n _ _ hs49) km_Mo_311 kv_Mo_push kl_Mo_push kd_Mo_push ki_Mo ⟨rfl, by decide, by decide, by decide⟩ rfl ⟨rfl, rfl⟩ (by decide) (by decide) d_Mo_workNode_226 (Nat.le_of_ble_eq_true rfl) _ rfl (fun v1 σ1 hv => ?_)
                        obtain ⟨rfl, rfl⟩ := hv
                        rw [mbind_eq] at hF hS
                        generalize F_Mo_push n (mo_si (mo_si σ 48 ((σ.1 48) + 1)) 49 (((mo_si σ 48 ((σ.1 48) + 1)).1 49) + 1)) (σ.1 45) = w48 at hF hS ⊢
                        refine GW.eqs (st' := []) rfl ?_
                        refine g_aload_n C d_Mo_workNode_229 rfl ?_
                        refine g_aload_n C d_Mo_workNode_230 rfl ?_
                        refine m_geta C hE 9 (by decide) (by decide) (by decide) kf_Mo_22 d_Mo_workNode_231 ?_
                        refine g_iload_n C d_Mo_workNode_234 rfl ?_
                        obtain ⟨hi50, hS⟩ := hS
                        refine m_ald C hE 9 (by decide) (by decide) hi50 d_Mo_workNode_235 ?_
                        obtain ⟨hs52, hS⟩ := hS
                        refine m_callV (n := 1) (av := [.int (w48.2.2.1 9 (σ.1 45).toNatClampNeg)]) (rest := []) C hE (mc_Mo_work l D cs B dE mo ad _ _ hs52) km_Mo_308 kv_Mo_work kl_Mo_work kd_Mo_work ki_Mo ⟨rfl, by decide, by decide, by decide⟩ rfl ⟨rfl, rfl⟩ (by decide) (by decide) d_Mo_workNode_236 (Nat.le_of_ble_eq_true rfl) _ rfl (fun v1 σ1 hv => ?_)
                        obtain ⟨rfl, rfl⟩ := hv
                        rw [mbind_eq] at hF hS
                        generalize F_Mo_work w48 (w48.2.2.1 9 (σ.1 45).toNatClampNeg) = w51 at hF hS ⊢
                        refine GW.eqs (st' := []) rfl ?_
                        refine g_goto C 257 d_Mo_workNode_239 (by decide) ?_
                        exact m_vret C hr hlocks d_Mo_workNode_257 (by rw [← hF]; exact ⟨rfl, rfl⟩)
                      · rw [if_pos hc47] at hF hS
                        refine GW.subl [1] rfl ?_
                        exact w_Mo_workNode_j181 C hE hr hlocks n σ  Fv hS hF
                  · rw [if_neg hc45] at hF hS
                    refine g_tableOut C 242 d_Mo_workNode_11 (by have := lv_neT hc2 (show (0 : Int32).toInt = 0 by decide); have := lv_neT hc6 (show (1 : Int32).toInt = 1 by decide); have := lv_neT hc10 (show (2 : Int32).toInt = 2 by decide); have := lv_neT hc13 (show (3 : Int32).toInt = 3 by decide); have := lv_neT hc18 (show (4 : Int32).toInt = 4 by decide); have := lv_neT hc24 (show (5 : Int32).toInt = 5 by decide); have := lv_neT hc33 (show (6 : Int32).toInt = 6 by decide); have := lv_neT hc39 (show (7 : Int32).toInt = 7 by decide); have := lv_neT hc45 (show (8 : Int32).toInt = 8 by decide); omega) (by decide) ?_
                    refine g_aload_n C d_Mo_workNode_242 rfl ?_
                    refine g_iload_n C d_Mo_workNode_243 rfl ?_
                    obtain ⟨hs54, hS⟩ := hS
                    refine m_callV (n := 1) (av := [.int (σ.1 45)]) (rest := []) C hE (mc_Mo_push l D cs B dE mo ad n _ _ hs54) km_Mo_311 kv_Mo_push kl_Mo_push kd_Mo_push ki_Mo ⟨rfl, by decide, by decide, by decide⟩ rfl ⟨rfl, rfl⟩ (by decide) (by decide) d_Mo_workNode_244 (Nat.le_of_ble_eq_true rfl) _ rfl (fun v1 σ1 hv => ?_)
                    obtain ⟨rfl, rfl⟩ := hv
                    rw [mbind_eq] at hF hS
                    generalize F_Mo_push n σ (σ.1 45) = w53 at hF hS ⊢
                    refine GW.eqs (st' := []) rfl ?_
                    refine g_aload_n C d_Mo_workNode_247 rfl ?_
                    refine g_aload_n C d_Mo_workNode_248 rfl ?_
                    refine m_geta C hE 9 (by decide) (by decide) (by decide) kf_Mo_22 d_Mo_workNode_249 ?_
                    refine g_iload_n C d_Mo_workNode_252 rfl ?_
                    obtain ⟨hi55, hS⟩ := hS
                    refine m_ald C hE 9 (by decide) (by decide) hi55 d_Mo_workNode_253 ?_
                    obtain ⟨hs57, hS⟩ := hS
                    refine m_callV (n := 1) (av := [.int (w53.2.2.1 9 (σ.1 45).toNatClampNeg)]) (rest := []) C hE (mc_Mo_work l D cs B dE mo ad _ _ hs57) km_Mo_308 kv_Mo_work kl_Mo_work kd_Mo_work ki_Mo ⟨rfl, by decide, by decide, by decide⟩ rfl ⟨rfl, rfl⟩ (by decide) (by decide) d_Mo_workNode_254 (Nat.le_of_ble_eq_true rfl) _ rfl (fun v1 σ1 hv => ?_)
                    obtain ⟨rfl, rfl⟩ := hv
                    rw [mbind_eq] at hF hS
                    generalize F_Mo_work w53 (w53.2.2.1 9 (σ.1 45).toNatClampNeg) = w56 at hF hS ⊢
                    refine GW.eqs (st' := []) rfl ?_
                    exact m_vret C hr hlocks d_Mo_workNode_257 (by rw [← hF]; exact ⟨rfl, rfl⟩)
def F_Mo_reckoned (σ : mSt) (x0 : Int32) (x1 : Int32) (x2 : Int32) : Int32 × mSt := if x0 = 0 then ((x1 + x2, σ)) else (if x0 = 1 then ((x1 - x2, σ)) else (if x0 = 2 then ((x1 * x2, σ)) else (if x0 = 3 then (if x2 ≤ x1 then ((0, σ)) else ((1, σ))) else (if x1 = x2 then ((1, σ)) else ((0, σ))))))
def S_Mo_reckoned (σ : mSt) (x0 : Int32) (x1 : Int32) (x2 : Int32) : Prop := if x0 = 0 then (True) else (if x0 = 1 then (True) else (if x0 = 2 then (True) else (if x0 = 3 then (if x2 ≤ x1 then (True) else (True)) else (if x1 = x2 then (True) else (True)))))
set_option maxRecDepth 100000 in
set_option maxHeartbeats 4000000 in
theorem mc_Mo_reckoned (l : Launch) (D : va_G) (cs : Nat → ClassId) (B : Nat) (dE : Nat × Nat) (mo : Nat) (ad : Nat → Nat) (σ : mSt) (x0 : Int32) (x1 : Int32) (x2 : Int32) (hS : S_Mo_reckoned σ x0 x1 x2) : mMet l y_Mo_reckoned (Cond.code y_Mo_reckoned c_Mo_reckoned 3 (some .int)) ({ frames := 0, cells := 0, slots := 0, locals := 0 } : Room) D cs B dE mo ad [.int x0, .int x1, .int x2] σ (fun r σ' => r = some (.int (F_Mo_reckoned σ x0 x1 x2).1) ∧ σ' = (F_Mo_reckoned σ x0 x1 x2).2) := by
  refine mMet.ofW (by decide) rfl (Nat.le_of_ble_eq_true rfl) (lv0 := [(0, .int x0), (1, .int x1), (2, .int x2)]) rfl ?_
  intro p e s m args below meth c M0 C hE hr hlocks
  generalize hF : F_Mo_reckoned σ x0 x1 x2 = Fv
  unfold F_Mo_reckoned at hF
  unfold S_Mo_reckoned at hS
  refine g_iload_n C d_Mo_reckoned_0 rfl ?_
  by_cases hc1 : x0 = 0
  · rw [if_pos hc1] at hF hS
    refine g_tableIn C 32 d_Mo_reckoned_1 (by rw [hc1]; decide) (by rw [hc1]; decide) (by rw [hc1]; rfl) (by decide) ?_
    refine g_iload_n C d_Mo_reckoned_32 rfl ?_
    refine g_iload_n C d_Mo_reckoned_33 rfl ?_
    refine g_iadd C d_Mo_reckoned_34 ?_
    exact m_iret C hr hlocks d_Mo_reckoned_35 (by rw [← hF]; exact ⟨rfl, rfl⟩)
  · rw [if_neg hc1] at hF hS
    by_cases hc2 : x0 = 1
    · rw [if_pos hc2] at hF hS
      refine g_tableIn C 36 d_Mo_reckoned_1 (by rw [hc2]; decide) (by rw [hc2]; decide) (by rw [hc2]; rfl) (by decide) ?_
      refine g_iload_n C d_Mo_reckoned_36 rfl ?_
      refine g_iload_n C d_Mo_reckoned_37 rfl ?_
      refine g_isub C d_Mo_reckoned_38 ?_
      exact m_iret C hr hlocks d_Mo_reckoned_39 (by rw [← hF]; exact ⟨rfl, rfl⟩)
    · rw [if_neg hc2] at hF hS
      by_cases hc3 : x0 = 2
      · rw [if_pos hc3] at hF hS
        refine g_tableIn C 40 d_Mo_reckoned_1 (by rw [hc3]; decide) (by rw [hc3]; decide) (by rw [hc3]; rfl) (by decide) ?_
        refine g_iload_n C d_Mo_reckoned_40 rfl ?_
        refine g_iload_n C d_Mo_reckoned_41 rfl ?_
        refine g_imul C d_Mo_reckoned_42 ?_
        exact m_iret C hr hlocks d_Mo_reckoned_43 (by rw [← hF]; exact ⟨rfl, rfl⟩)
      · rw [if_neg hc3] at hF hS
        by_cases hc4 : x0 = 3
        · rw [if_pos hc4] at hF hS
          refine g_tableIn C 44 d_Mo_reckoned_1 (by rw [hc4]; decide) (by rw [hc4]; decide) (by rw [hc4]; rfl) (by decide) ?_
          refine g_iload_n C d_Mo_reckoned_44 rfl ?_
          refine g_iload_n C d_Mo_reckoned_45 rfl ?_
          refine g_icmp_ge C 53 d_Mo_reckoned_46 (by decide) (fun hc5 => ?_) (fun hc5 => ?_)
          · rw [if_pos hc5] at hF hS
            refine g_iconst (v := 0) C d_Mo_reckoned_53 (by decide) ?_
            exact m_iret C hr hlocks d_Mo_reckoned_54 (by rw [← hF]; exact ⟨rfl, rfl⟩)
          · rw [if_neg hc5] at hF hS
            refine g_iconst (v := 1) C d_Mo_reckoned_49 (by decide) ?_
            refine g_goto C 54 d_Mo_reckoned_50 (by decide) ?_
            exact m_iret C hr hlocks d_Mo_reckoned_54 (by rw [← hF]; exact ⟨rfl, rfl⟩)
        · rw [if_neg hc4] at hF hS
          refine g_tableOut C 55 d_Mo_reckoned_1 (by have := lv_neT hc1 (show (0 : Int32).toInt = 0 by decide); have := lv_neT hc2 (show (1 : Int32).toInt = 1 by decide); have := lv_neT hc3 (show (2 : Int32).toInt = 2 by decide); have := lv_neT hc4 (show (3 : Int32).toInt = 3 by decide); omega) (by decide) ?_
          refine g_iload_n C d_Mo_reckoned_55 rfl ?_
          refine g_iload_n C d_Mo_reckoned_56 rfl ?_
          refine g_icmp_ne C 64 d_Mo_reckoned_57 (by decide) (fun hc6 => ?_) (fun hc6 => ?_)
          · rw [if_neg hc6] at hF hS
            refine g_iconst (v := 0) C d_Mo_reckoned_64 (by decide) ?_
            exact m_iret C hr hlocks d_Mo_reckoned_65 (by rw [← hF]; exact ⟨rfl, rfl⟩)
          · rw [if_pos hc6] at hF hS
            refine g_iconst (v := 1) C d_Mo_reckoned_60 (by decide) ?_
            refine g_goto C 65 d_Mo_reckoned_61 (by decide) ?_
            exact m_iret C hr hlocks d_Mo_reckoned_65 (by rw [← hF]; exact ⟨rfl, rfl⟩)
def F_Mo_workMarked (σ : mSt) (x1 : Int32) : mSt := mbind (F_Mo_work (mo_si (mo_ai σ 40 (σ.1 44).toNatClampNeg (-1)) 44 (((mo_ai σ 40 (σ.1 44).toNatClampNeg (-1)).1 44) + 1)) x1) (fun w2 => w2)
def S_Mo_workMarked (σ : mSt) (x1 : Int32) : Prop := (vp_in (σ.1 44) 17000) ∧ ((S_Mo_work (mo_si (mo_ai σ 40 (σ.1 44).toNatClampNeg (-1)) 44 (((mo_ai σ 40 (σ.1 44).toNatClampNeg (-1)).1 44) + 1)) x1) ∧ (mbind (F_Mo_work (mo_si (mo_ai σ 40 (σ.1 44).toNatClampNeg (-1)) 44 (((mo_ai σ 40 (σ.1 44).toNatClampNeg (-1)).1 44) + 1)) x1) (fun w2 => True)))
set_option maxRecDepth 100000 in
set_option maxHeartbeats 4000000 in
theorem mc_Mo_workMarked (l : Launch) (D : va_G) (cs : Nat → ClassId) (B : Nat) (dE : Nat × Nat) (mo : Nat) (ad : Nat → Nat) (σ : mSt) (x1 : Int32) (hS : S_Mo_workMarked σ x1) : mMet l y_Mo_workMarked (Cond.code y_Mo_workMarked c_Mo_workMarked 2 none) ({ frames := 1, cells := 0, slots := 0, locals := 21 } : Room) D cs B dE mo ad [.ref mo, .int x1] σ (fun r σ' => r = none ∧ σ' = F_Mo_workMarked σ x1) := by
  refine mMet.ofW (by decide) rfl (Nat.le_of_ble_eq_true rfl) (lv0 := [(0, .ref mo), (1, .int x1)]) rfl ?_
  intro p e s m args below meth c M0 C hE hr hlocks
  generalize hF : F_Mo_workMarked σ x1 = Fv
  unfold F_Mo_workMarked at hF
  unfold S_Mo_workMarked at hS
  refine g_aload_n C d_Mo_workMarked_0 rfl ?_
  refine m_geta C hE 40 (by decide) (by decide) (by decide) kf_Mo_90 d_Mo_workMarked_1 ?_
  refine g_aload_n C d_Mo_workMarked_4 rfl ?_
  refine m_geti C hE 44 (by decide) (by decide) kf_Mo_283 d_Mo_workMarked_5 ?_
  refine g_iconst (v := (-1)) C d_Mo_workMarked_8 (by decide) ?_
  obtain ⟨hi1, hS⟩ := hS
  refine m_ast C hE 40 (by decide) (by decide) hi1 d_Mo_workMarked_9 ?_
  refine g_aload_n C d_Mo_workMarked_10 rfl ?_
  refine g_dup C d_Mo_workMarked_11 rfl ?_
  refine m_geti C hE 44 (by decide) (by decide) kf_Mo_283 d_Mo_workMarked_12 ?_
  refine g_iconst (v := 1) C d_Mo_workMarked_15 (by decide) ?_
  refine g_iadd C d_Mo_workMarked_16 ?_
  refine m_puti C hE 44 (by decide) (by decide) rfl rfl kf_Mo_283 d_Mo_workMarked_17 ?_
  refine g_aload_n C d_Mo_workMarked_20 rfl ?_
  refine g_iload_n C d_Mo_workMarked_21 rfl ?_
  obtain ⟨hs3, hS⟩ := hS
  refine m_callV (n := 1) (av := [.int x1]) (rest := []) C hE (mc_Mo_work l D cs B dE mo ad _ _ hs3) km_Mo_308 kv_Mo_work kl_Mo_work kd_Mo_work ki_Mo ⟨rfl, by decide, by decide, by decide⟩ rfl ⟨rfl, rfl⟩ (by decide) (by decide) d_Mo_workMarked_22 (Nat.le_of_ble_eq_true rfl) _ rfl (fun v1 σ1 hv => ?_)
  obtain ⟨rfl, rfl⟩ := hv
  rw [mbind_eq] at hF hS
  generalize F_Mo_work (mo_si (mo_ai σ 40 (σ.1 44).toNatClampNeg (-1)) 44 (((mo_ai σ 40 (σ.1 44).toNatClampNeg (-1)).1 44) + 1)) x1 = w2 at hF hS ⊢
  refine GW.eqs (st' := []) rfl ?_
  exact m_vret C hr hlocks d_Mo_workMarked_25 (by rw [← hF]; exact ⟨rfl, rfl⟩)
def F_Mo_callFunction_46 : Nat → mSt → Int32 → Int32 → Int32 → mSt × Int32 × Int32
  | 0, σ, _, _, _ => (σ, 0, 0)
  | n + 1, σ, x1, x2, x3 => if 10 ≤ x3 then ((σ, x1, x2)) else (F_Mo_callFunction_46 n (mo_al σ 53 x3.toNatClampNeg (σ.2.2.2 55 ((10 * x1) + x3).toNatClampNeg)) x1 x2 (x3 + 1))
def S_Mo_callFunction_46 : Nat → mSt → Int32 → Int32 → Int32 → Prop
  | 0, _, _, _, _ => False
  | n + 1, σ, x1, x2, x3 => if 10 ≤ x3 then (True) else ((vp_in ((10 * x1) + x3) 10000) ∧ ((vp_in x3 10) ∧ (S_Mo_callFunction_46 n (mo_al σ 53 x3.toNatClampNeg (σ.2.2.2 55 ((10 * x1) + x3).toNatClampNeg)) x1 x2 (x3 + 1))))
set_option maxRecDepth 100000 in
set_option maxHeartbeats 4000000 in
theorem w_Mo_callFunction_46 {p : Program} {l : Launch} {e : Env} {s : State} {m : MethodId} {args : Array Value} {below : List Frame} {meth : Method} {c : Code} {D : va_G} {cs : Nat → ClassId} {B : Nat} {dE : Nat × Nat} {mo : Nat} {ad : Nat → Nat} {M0 : gMem} {Q : State → Prop} (C : CallFix p m c c_Mo_callFunction 4 s args gT R_Mo) (hE : gEnv D gcl (gtys cs) gz B dE s) (n : Nat) (σ : mSt) (x1 : Int32) (x2 : Int32) (x3 : Int32) (Fv : mSt × Int32 × Int32) (hS : S_Mo_callFunction_46 n σ x1 x2 x3) (hF : F_Mo_callFunction_46 n σ x1 x2 x3 = Fv) (hk : GW p l e ({ frames := 2, cells := 0, slots := 0, locals := 42 } : Room) s m args below meth c 4 (gA B) Q (mo_P D B cs mo ad M0 Fv.1) 0 0 75 [(0, .ref mo), (1, .int Fv.2.1), (2, .int Fv.2.2)] []) : GW p l e ({ frames := 2, cells := 0, slots := 0, locals := 42 } : Room) s m args below meth c 4 (gA B) Q (mo_P D B cs mo ad M0 σ) 0 0 46 [(0, .ref mo), (1, .int x1), (2, .int x2), (3, .int x3)] [] := by
  induction n generalizing σ x1 x2 x3 Fv with
  | zero => exact hS.elim
  | succ n ih =>
    unfold F_Mo_callFunction_46 at hF
    unfold S_Mo_callFunction_46 at hS
    refine g_iload_n C d_Mo_callFunction_46 rfl ?_
    refine g_bipush (v := 10) C d_Mo_callFunction_47 (by decide) ?_
    refine g_icmp_ge C 75 d_Mo_callFunction_49 (by decide) (fun hc13 => ?_) (fun hc13 => ?_)
    · rw [if_pos hc13] at hF hS
      refine GW.subl [0, 1, 2] rfl ?_
      rw [← hF] at hk
      exact hk
    · rw [if_neg hc13] at hF hS
      refine g_aload_n C d_Mo_callFunction_52 rfl ?_
      refine m_geta C hE 53 (by decide) (by decide) (by decide) kf_Mo_104 d_Mo_callFunction_53 ?_
      refine g_iload_n C d_Mo_callFunction_56 rfl ?_
      refine g_aload_n C d_Mo_callFunction_57 rfl ?_
      refine m_geta C hE 55 (by decide) (by decide) (by decide) kf_Mo_110 d_Mo_callFunction_58 ?_
      refine g_bipush (v := 10) C d_Mo_callFunction_61 (by decide) ?_
      refine g_iload_n C d_Mo_callFunction_63 rfl ?_
      refine g_imul C d_Mo_callFunction_64 ?_
      refine g_iload_n C d_Mo_callFunction_65 rfl ?_
      refine g_iadd C d_Mo_callFunction_66 ?_
      obtain ⟨hi14, hS⟩ := hS
      refine m_lald C hE 55 (by decide) (by decide) hi14 d_Mo_callFunction_67 ?_
      obtain ⟨hi15, hS⟩ := hS
      refine m_last C hE 53 (by decide) (by decide) hi15 d_Mo_callFunction_68 ?_
      refine g_iinc (v := x3 + 1) (lv' := [(3, .int (x3 + 1)), (0, .ref mo), (1, .int x1), (2, .int x2)]) C d_Mo_callFunction_69 rfl rfl (by decide) rfl ?_
      refine g_goto C 46 d_Mo_callFunction_72 (by decide) ?_
      refine GW.subl [1, 2, 3, 0] rfl ?_
      exact ih (mo_al σ 53 x3.toNatClampNeg (σ.2.2.2 55 ((10 * x1) + x3).toNatClampNeg)) x1 x2 (x3 + 1) Fv hS hF hk
def F_Mo_callFunction_j127 (n : Nat) (σ : mSt) (x2 : Int32) (z0 : Int32) : mSt := mbind (F_Mo_workMarked (mo_al σ 53 z0.toNatClampNeg σ.2.1) ((mo_al σ 53 z0.toNatClampNeg σ.2.1).2.2.1 9 x2.toNatClampNeg)) (fun w18 => w18)
def S_Mo_callFunction_j127 (n : Nat) (σ : mSt) (x2 : Int32) (z0 : Int32) : Prop := (vp_in z0 10) ∧ ((vp_in x2 200) ∧ ((S_Mo_workMarked (mo_al σ 53 z0.toNatClampNeg σ.2.1) ((mo_al σ 53 z0.toNatClampNeg σ.2.1).2.2.1 9 x2.toNatClampNeg)) ∧ (mbind (F_Mo_workMarked (mo_al σ 53 z0.toNatClampNeg σ.2.1) ((mo_al σ 53 z0.toNatClampNeg σ.2.1).2.2.1 9 x2.toNatClampNeg)) (fun w18 => True))))
set_option maxRecDepth 100000 in
set_option maxHeartbeats 4000000 in
theorem w_Mo_callFunction_j127 {p : Program} {l : Launch} {e : Env} {s : State} {m : MethodId} {args : Array Value} {below : List Frame} {meth : Method} {c : Code} {D : va_G} {cs : Nat → ClassId} {B : Nat} {dE : Nat × Nat} {mo : Nat} {ad : Nat → Nat} {M0 : gMem} (C : CallFix p m c c_Mo_callFunction 4 s args gT R_Mo) (hE : gEnv D gcl (gtys cs) gz B dE s) (hr : meth.sig.returnType = none) (hlocks : meth.locks = false) (n : Nat) (σ : mSt) (x2 : Int32) (z0 : Int32) (Fv : mSt) (hS : S_Mo_callFunction_j127 n σ x2 z0) (hF : F_Mo_callFunction_j127 n σ x2 z0 = Fv) : GW p l e ({ frames := 2, cells := 0, slots := 0, locals := 42 } : Room) s m args below meth c 4 (gA B) (mQ below D cs B mo ad M0 (fun r σ' => r = none ∧ σ' = Fv) args s) (mo_P D B cs mo ad M0 σ) 0 0 127 [(0, .ref mo), (2, .int x2)] [.int z0, .ref (ad 53)] := by
  unfold F_Mo_callFunction_j127 at hF
  unfold S_Mo_callFunction_j127 at hS
  refine g_aload_n C d_Mo_callFunction_127 rfl ?_
  refine m_getl C hE kf_Mo_186 d_Mo_callFunction_128 ?_
  obtain ⟨hi16, hS⟩ := hS
  refine m_last C hE 53 (by decide) (by decide) hi16 d_Mo_callFunction_131 ?_
  refine g_aload_n C d_Mo_callFunction_132 rfl ?_
  refine g_aload_n C d_Mo_callFunction_133 rfl ?_
  refine m_geta C hE 9 (by decide) (by decide) (by decide) kf_Mo_22 d_Mo_callFunction_134 ?_
  refine g_iload_n C d_Mo_callFunction_137 rfl ?_
  obtain ⟨hi17, hS⟩ := hS
  refine m_ald C hE 9 (by decide) (by decide) hi17 d_Mo_callFunction_138 ?_
  obtain ⟨hs19, hS⟩ := hS
  refine m_callV (n := 1) (av := [.int ((mo_al σ 53 z0.toNatClampNeg σ.2.1).2.2.1 9 x2.toNatClampNeg)]) (rest := []) C hE (mc_Mo_workMarked l D cs B dE mo ad _ _ hs19) km_Mo_314 kv_Mo_workMarked kl_Mo_workMarked kd_Mo_workMarked ki_Mo ⟨rfl, by decide, by decide, by decide⟩ rfl ⟨rfl, rfl⟩ (by decide) (by decide) d_Mo_callFunction_139 (Nat.le_of_ble_eq_true rfl) _ rfl (fun v1 σ1 hv => ?_)
  obtain ⟨rfl, rfl⟩ := hv
  rw [mbind_eq] at hF hS
  generalize F_Mo_workMarked (mo_al σ 53 z0.toNatClampNeg σ.2.1) ((mo_al σ 53 z0.toNatClampNeg σ.2.1).2.2.1 9 x2.toNatClampNeg) = w18 at hF hS ⊢
  refine GW.eqs (st' := []) rfl ?_
  exact m_vret C hr hlocks d_Mo_callFunction_142 (by rw [← hF]; exact ⟨rfl, rfl⟩)
def F_Mo_callFunction_j98 (n : Nat) (σ : mSt) (x2 : Int32) : mSt := if (σ.2.2.1 5 x2.toNatClampNeg) = 5 then (F_Mo_callFunction_j127 n σ x2 (σ.2.2.1 7 x2.toNatClampNeg)) else (F_Mo_callFunction_j127 n σ x2 (σ.2.2.1 6 x2.toNatClampNeg))
def S_Mo_callFunction_j98 (n : Nat) (σ : mSt) (x2 : Int32) : Prop := (vp_in x2 200) ∧ (if (σ.2.2.1 5 x2.toNatClampNeg) = 5 then ((vp_in x2 200) ∧ (S_Mo_callFunction_j127 n σ x2 (σ.2.2.1 7 x2.toNatClampNeg))) else ((vp_in x2 200) ∧ (S_Mo_callFunction_j127 n σ x2 (σ.2.2.1 6 x2.toNatClampNeg))))
set_option maxRecDepth 100000 in
set_option maxHeartbeats 4000000 in
theorem w_Mo_callFunction_j98 {p : Program} {l : Launch} {e : Env} {s : State} {m : MethodId} {args : Array Value} {below : List Frame} {meth : Method} {c : Code} {D : va_G} {cs : Nat → ClassId} {B : Nat} {dE : Nat × Nat} {mo : Nat} {ad : Nat → Nat} {M0 : gMem} (C : CallFix p m c c_Mo_callFunction 4 s args gT R_Mo) (hE : gEnv D gcl (gtys cs) gz B dE s) (hr : meth.sig.returnType = none) (hlocks : meth.locks = false) (n : Nat) (σ : mSt) (x2 : Int32) (Fv : mSt) (hS : S_Mo_callFunction_j98 n σ x2) (hF : F_Mo_callFunction_j98 n σ x2 = Fv) : GW p l e ({ frames := 2, cells := 0, slots := 0, locals := 42 } : Room) s m args below meth c 4 (gA B) (mQ below D cs B mo ad M0 (fun r σ' => r = none ∧ σ' = Fv) args s) (mo_P D B cs mo ad M0 σ) 0 0 98 [(0, .ref mo), (2, .int x2)] [] := by
  unfold F_Mo_callFunction_j98 at hF
  unfold S_Mo_callFunction_j98 at hS
  refine g_aload_n C d_Mo_callFunction_98 rfl ?_
  refine m_geta C hE 53 (by decide) (by decide) (by decide) kf_Mo_104 d_Mo_callFunction_99 ?_
  refine g_aload_n C d_Mo_callFunction_102 rfl ?_
  refine m_geta C hE 5 (by decide) (by decide) (by decide) kf_Mo_7 d_Mo_callFunction_103 ?_
  refine g_iload_n C d_Mo_callFunction_106 rfl ?_
  obtain ⟨hi9, hS⟩ := hS
  refine m_ald C hE 5 (by decide) (by decide) hi9 d_Mo_callFunction_107 ?_
  refine g_iconst (v := 5) C d_Mo_callFunction_108 (by decide) ?_
  refine g_icmp_ne C 121 d_Mo_callFunction_109 (by decide) (fun hc10 => ?_) (fun hc10 => ?_)
  · rw [if_neg hc10] at hF hS
    refine g_aload_n C d_Mo_callFunction_121 rfl ?_
    refine m_geta C hE 6 (by decide) (by decide) (by decide) kf_Mo_13 d_Mo_callFunction_122 ?_
    refine g_iload_n C d_Mo_callFunction_125 rfl ?_
    obtain ⟨hi11, hS⟩ := hS
    refine m_ald C hE 6 (by decide) (by decide) hi11 d_Mo_callFunction_126 ?_
    refine GW.subl [0, 1] rfl ?_
    exact w_Mo_callFunction_j127 C hE hr hlocks n σ x2 (σ.2.2.1 6 x2.toNatClampNeg) Fv hS hF
  · rw [if_pos hc10] at hF hS
    refine g_aload_n C d_Mo_callFunction_112 rfl ?_
    refine m_geta C hE 7 (by decide) (by decide) (by decide) kf_Mo_16 d_Mo_callFunction_113 ?_
    refine g_iload_n C d_Mo_callFunction_116 rfl ?_
    obtain ⟨hi12, hS⟩ := hS
    refine m_ald C hE 7 (by decide) (by decide) hi12 d_Mo_callFunction_117 ?_
    refine g_goto C 127 d_Mo_callFunction_118 (by decide) ?_
    refine GW.subl [0, 1] rfl ?_
    exact w_Mo_callFunction_j127 C hE hr hlocks n σ x2 (σ.2.2.1 7 x2.toNatClampNeg) Fv hS hF
def F_Mo_callFunction (n : Nat) (σ : mSt) (x1 : Int32) : mSt := if (σ.1 49) = 400 then (mo_si σ 46 6) else (mbind (F_Mo_callFunction_46 n (mo_si (mo_si σ 44 ((σ.1 44) - 1)) 49 (((mo_si σ 44 ((σ.1 44) - 1)).1 49) + 1)) x1 ((mo_si (mo_si σ 44 ((σ.1 44) - 1)) 49 (((mo_si σ 44 ((σ.1 44) - 1)).1 49) + 1)).2.2.1 54 x1.toNatClampNeg) 0) (fun w3 => if (w3.1.2.2.1 5 w3.2.2.toNatClampNeg) = 5 then (F_Mo_callFunction_j98 n (mo_al w3.1 53 (w3.1.2.2.1 6 w3.2.2.toNatClampNeg).toNatClampNeg w3.2.1.toInt64) w3.2.2) else (F_Mo_callFunction_j98 n w3.1 w3.2.2)))
def S_Mo_callFunction (n : Nat) (σ : mSt) (x1 : Int32) : Prop := if (σ.1 49) = 400 then (True) else ((vp_in x1 1000) ∧ ((S_Mo_callFunction_46 n (mo_si (mo_si σ 44 ((σ.1 44) - 1)) 49 (((mo_si σ 44 ((σ.1 44) - 1)).1 49) + 1)) x1 ((mo_si (mo_si σ 44 ((σ.1 44) - 1)) 49 (((mo_si σ 44 ((σ.1 44) - 1)).1 49) + 1)).2.2.1 54 x1.toNatClampNeg) 0) ∧ (mbind (F_Mo_callFunction_46 n (mo_si (mo_si σ 44 ((σ.1 44) - 1)) 49 (((mo_si σ 44 ((σ.1 44) - 1)).1 49) + 1)) x1 ((mo_si (mo_si σ 44 ((σ.1 44) - 1)) 49 (((mo_si σ 44 ((σ.1 44) - 1)).1 49) + 1)).2.2.1 54 x1.toNatClampNeg) 0) (fun w3 => (vp_in w3.2.2 200) ∧ (if (w3.1.2.2.1 5 w3.2.2.toNatClampNeg) = 5 then ((vp_in w3.2.2 200) ∧ ((vp_in (w3.1.2.2.1 6 w3.2.2.toNatClampNeg) 10) ∧ (S_Mo_callFunction_j98 n (mo_al w3.1 53 (w3.1.2.2.1 6 w3.2.2.toNatClampNeg).toNatClampNeg w3.2.1.toInt64) w3.2.2))) else (S_Mo_callFunction_j98 n w3.1 w3.2.2))))))
set_option maxRecDepth 100000 in
set_option maxHeartbeats 4000000 in
theorem mc_Mo_callFunction (l : Launch) (D : va_G) (cs : Nat → ClassId) (B : Nat) (dE : Nat × Nat) (mo : Nat) (ad : Nat → Nat) (n : Nat) (σ : mSt) (x1 : Int32) (hS : S_Mo_callFunction n σ x1) : mMet l y_Mo_callFunction (Cond.code y_Mo_callFunction c_Mo_callFunction 4 none) ({ frames := 2, cells := 0, slots := 0, locals := 42 } : Room) D cs B dE mo ad [.ref mo, .int x1] σ (fun r σ' => r = none ∧ σ' = F_Mo_callFunction n σ x1) := by
  refine mMet.ofW (by decide) rfl (Nat.le_of_ble_eq_true rfl) (lv0 := [(0, .ref mo), (1, .int x1)]) rfl ?_
  intro p e s m args below meth c M0 C hE hr hlocks
  generalize hF : F_Mo_callFunction n σ x1 = Fv
  unfold F_Mo_callFunction at hF
  unfold S_Mo_callFunction at hS
  refine g_aload_n C d_Mo_callFunction_0 rfl ?_
  refine m_geti C hE 49 (by decide) (by decide) kf_Mo_180 d_Mo_callFunction_1 ?_
  refine g_sipush (v := 400) C d_Mo_callFunction_4 (by decide) ?_
  refine g_icmp_ne C 17 d_Mo_callFunction_7 (by decide) (fun hc1 => ?_) (fun hc1 => ?_)
  · rw [if_neg hc1] at hF hS
    refine g_aload_n C d_Mo_callFunction_17 rfl ?_
    refine g_dup C d_Mo_callFunction_18 rfl ?_
    refine m_geti C hE 44 (by decide) (by decide) kf_Mo_283 d_Mo_callFunction_19 ?_
    refine g_iconst (v := 1) C d_Mo_callFunction_22 (by decide) ?_
    refine g_isub C d_Mo_callFunction_23 ?_
    refine m_puti C hE 44 (by decide) (by decide) rfl rfl kf_Mo_283 d_Mo_callFunction_24 ?_
    refine g_aload_n C d_Mo_callFunction_27 rfl ?_
    refine g_dup C d_Mo_callFunction_28 rfl ?_
    refine m_geti C hE 49 (by decide) (by decide) kf_Mo_180 d_Mo_callFunction_29 ?_
    refine g_iconst (v := 1) C d_Mo_callFunction_32 (by decide) ?_
    refine g_iadd C d_Mo_callFunction_33 ?_
    refine m_puti C hE 49 (by decide) (by decide) rfl rfl kf_Mo_180 d_Mo_callFunction_34 ?_
    refine g_aload_n C d_Mo_callFunction_37 rfl ?_
    refine m_geta C hE 54 (by decide) (by decide) (by decide) kf_Mo_107 d_Mo_callFunction_38 ?_
    refine g_iload_n C d_Mo_callFunction_41 rfl ?_
    obtain ⟨hi2, hS⟩ := hS
    refine m_ald C hE 54 (by decide) (by decide) hi2 d_Mo_callFunction_42 ?_
    refine g_istore_n (lv' := [(2, .int ((mo_si (mo_si σ 44 ((σ.1 44) - 1)) 49 (((mo_si σ 44 ((σ.1 44) - 1)).1 49) + 1)).2.2.1 54 x1.toNatClampNeg)), (0, .ref mo), (1, .int x1)]) C d_Mo_callFunction_43 (by decide) rfl ?_
    refine g_iconst (v := 0) C d_Mo_callFunction_44 (by decide) ?_
    refine g_istore_n (lv' := [(3, .int 0), (2, .int ((mo_si (mo_si σ 44 ((σ.1 44) - 1)) 49 (((mo_si σ 44 ((σ.1 44) - 1)).1 49) + 1)).2.2.1 54 x1.toNatClampNeg)), (0, .ref mo), (1, .int x1)]) C d_Mo_callFunction_45 (by decide) rfl ?_
    obtain ⟨hs4, hS⟩ := hS
    rw [mbind_eq] at hF hS
    refine GW.subl [2, 3, 1, 0] rfl ?_
    refine w_Mo_callFunction_46 C hE n (mo_si (mo_si σ 44 ((σ.1 44) - 1)) 49 (((mo_si σ 44 ((σ.1 44) - 1)).1 49) + 1)) x1 ((mo_si (mo_si σ 44 ((σ.1 44) - 1)) 49 (((mo_si σ 44 ((σ.1 44) - 1)).1 49) + 1)).2.2.1 54 x1.toNatClampNeg) 0 _ hs4 rfl ?_
    generalize F_Mo_callFunction_46 n (mo_si (mo_si σ 44 ((σ.1 44) - 1)) 49 (((mo_si σ 44 ((σ.1 44) - 1)).1 49) + 1)) x1 ((mo_si (mo_si σ 44 ((σ.1 44) - 1)) 49 (((mo_si σ 44 ((σ.1 44) - 1)).1 49) + 1)).2.2.1 54 x1.toNatClampNeg) 0 = w3 at hF hS ⊢
    refine g_aload_n C d_Mo_callFunction_75 rfl ?_
    refine m_geta C hE 5 (by decide) (by decide) (by decide) kf_Mo_7 d_Mo_callFunction_76 ?_
    refine g_iload_n C d_Mo_callFunction_79 rfl ?_
    obtain ⟨hi5, hS⟩ := hS
    refine m_ald C hE 5 (by decide) (by decide) hi5 d_Mo_callFunction_80 ?_
    refine g_iconst (v := 5) C d_Mo_callFunction_81 (by decide) ?_
    refine g_icmp_ne C 98 d_Mo_callFunction_82 (by decide) (fun hc6 => ?_) (fun hc6 => ?_)
    · rw [if_neg hc6] at hF hS
      refine GW.subl [0, 2] rfl ?_
      exact w_Mo_callFunction_j98 C hE hr hlocks n w3.1 w3.2.2 Fv hS hF
    · rw [if_pos hc6] at hF hS
      refine g_aload_n C d_Mo_callFunction_85 rfl ?_
      refine m_geta C hE 53 (by decide) (by decide) (by decide) kf_Mo_104 d_Mo_callFunction_86 ?_
      refine g_aload_n C d_Mo_callFunction_89 rfl ?_
      refine m_geta C hE 6 (by decide) (by decide) (by decide) kf_Mo_13 d_Mo_callFunction_90 ?_
      refine g_iload_n C d_Mo_callFunction_93 rfl ?_
      obtain ⟨hi7, hS⟩ := hS
      refine m_ald C hE 6 (by decide) (by decide) hi7 d_Mo_callFunction_94 ?_
      refine g_iload_n C d_Mo_callFunction_95 rfl ?_
      refine g_i2l C d_Mo_callFunction_96 rfl ?_
      obtain ⟨hi8, hS⟩ := hS
      refine m_last C hE 53 (by decide) (by decide) hi8 d_Mo_callFunction_97 ?_
      refine GW.subl [0, 2] rfl ?_
      exact w_Mo_callFunction_j98 C hE hr hlocks n (mo_al w3.1 53 (w3.1.2.2.1 6 w3.2.2.toNatClampNeg).toNatClampNeg w3.2.1.toInt64) w3.2.2 Fv hS hF
  · rw [if_pos hc1] at hF hS
    refine g_aload_n C d_Mo_callFunction_10 rfl ?_
    refine g_bipush (v := 6) C d_Mo_callFunction_11 (by decide) ?_
    refine m_puti C hE 46 (by decide) (by decide) rfl rfl kf_Mo_161 d_Mo_callFunction_13 ?_
    exact m_vret C hr hlocks d_Mo_callFunction_16 (by rw [← hF]; exact ⟨rfl, rfl⟩)
def F_Mo_goOn_j26 (n : Nat) (σ : mSt) (x1 : Int32) : mSt := if (σ.2.2.1 60 x1.toNatClampNeg) = 0 then (mo_si σ 46 6) else (mo_si σ 46 3)
def S_Mo_goOn_j26 (n : Nat) (σ : mSt) (x1 : Int32) : Prop := (vp_in x1 1000) ∧ (if (σ.2.2.1 60 x1.toNatClampNeg) = 0 then (True) else (True))
set_option maxRecDepth 100000 in
set_option maxHeartbeats 4000000 in
theorem w_Mo_goOn_j26 {p : Program} {l : Launch} {e : Env} {s : State} {m : MethodId} {args : Array Value} {below : List Frame} {meth : Method} {c : Code} {D : va_G} {cs : Nat → ClassId} {B : Nat} {dE : Nat × Nat} {mo : Nat} {ad : Nat → Nat} {M0 : gMem} (C : CallFix p m c c_Mo_goOn 4 s args gT R_Mo) (hE : gEnv D gcl (gtys cs) gz B dE s) (hr : meth.sig.returnType = none) (hlocks : meth.locks = false) (n : Nat) (σ : mSt) (x1 : Int32) (Fv : mSt) (hS : S_Mo_goOn_j26 n σ x1) (hF : F_Mo_goOn_j26 n σ x1 = Fv) : GW p l e ({ frames := 0, cells := 0, slots := 0, locals := 0 } : Room) s m args below meth c 4 (gA B) (mQ below D cs B mo ad M0 (fun r σ' => r = none ∧ σ' = Fv) args s) (mo_P D B cs mo ad M0 σ) 0 0 26 [(0, .ref mo), (1, .int x1)] [] := by
  unfold F_Mo_goOn_j26 at hF
  unfold S_Mo_goOn_j26 at hS
  refine g_aload_n C d_Mo_goOn_26 rfl ?_
  refine g_aload_n C d_Mo_goOn_27 rfl ?_
  refine m_geta C hE 60 (by decide) (by decide) (by decide) kf_Mo_122 d_Mo_goOn_28 ?_
  refine g_iload_n C d_Mo_goOn_31 rfl ?_
  obtain ⟨hi10, hS⟩ := hS
  refine m_zald C hE 60 (by decide) (by decide) hi10 d_Mo_goOn_32 ?_
  refine g_if_eq C 40 d_Mo_goOn_33 (by decide) (fun hc11 => ?_) (fun hc11 => ?_)
  · rw [if_pos hc11] at hF hS
    refine g_bipush (v := 6) C d_Mo_goOn_40 (by decide) ?_
    refine m_puti C hE 46 (by decide) (by decide) rfl rfl kf_Mo_161 d_Mo_goOn_42 ?_
    exact m_vret C hr hlocks d_Mo_goOn_45 (by rw [← hF]; exact ⟨rfl, rfl⟩)
  · rw [if_neg hc11] at hF hS
    refine g_iconst (v := 3) C d_Mo_goOn_36 (by decide) ?_
    refine g_goto C 42 d_Mo_goOn_37 (by decide) ?_
    refine m_puti C hE 46 (by decide) (by decide) rfl rfl kf_Mo_161 d_Mo_goOn_42 ?_
    exact m_vret C hr hlocks d_Mo_goOn_45 (by rw [← hF]; exact ⟨rfl, rfl⟩)
def F_Mo_goOn_149 : Nat → mSt → Int32 → Int32 → Int32 → mSt × Int32 × Int32
  | 0, σ, _, _, _ => (σ, 0, 0)
  | n + 1, σ, x1, x2, x3 => if 10 ≤ x3 then ((σ, x1, x2)) else (F_Mo_goOn_149 n (mo_al σ 43 ((10 * (σ.1 44)) + x3).toNatClampNeg (σ.2.2.2 66 ((10 * x2) + x3).toNatClampNeg)) x1 x2 (x3 + 1))
def S_Mo_goOn_149 : Nat → mSt → Int32 → Int32 → Int32 → Prop
  | 0, _, _, _, _ => False
  | n + 1, σ, x1, x2, x3 => if 10 ≤ x3 then (True) else ((vp_in ((10 * x2) + x3) 420000) ∧ ((vp_in ((10 * (σ.1 44)) + x3) 170000) ∧ (S_Mo_goOn_149 n (mo_al σ 43 ((10 * (σ.1 44)) + x3).toNatClampNeg (σ.2.2.2 66 ((10 * x2) + x3).toNatClampNeg)) x1 x2 (x3 + 1))))
set_option maxRecDepth 100000 in
set_option maxHeartbeats 4000000 in
theorem w_Mo_goOn_149 {p : Program} {l : Launch} {e : Env} {s : State} {m : MethodId} {args : Array Value} {below : List Frame} {meth : Method} {c : Code} {D : va_G} {cs : Nat → ClassId} {B : Nat} {dE : Nat × Nat} {mo : Nat} {ad : Nat → Nat} {M0 : gMem} {Q : State → Prop} (C : CallFix p m c c_Mo_goOn 4 s args gT R_Mo) (hE : gEnv D gcl (gtys cs) gz B dE s) (n : Nat) (σ : mSt) (x1 : Int32) (x2 : Int32) (x3 : Int32) (Fv : mSt × Int32 × Int32) (hS : S_Mo_goOn_149 n σ x1 x2 x3) (hF : F_Mo_goOn_149 n σ x1 x2 x3 = Fv) (hk : GW p l e ({ frames := 0, cells := 0, slots := 0, locals := 0 } : Room) s m args below meth c 4 (gA B) Q (mo_P D B cs mo ad M0 Fv.1) 0 0 186 [(0, .ref mo), (1, .int Fv.2.1), (2, .int Fv.2.2)] []) : GW p l e ({ frames := 0, cells := 0, slots := 0, locals := 0 } : Room) s m args below meth c 4 (gA B) Q (mo_P D B cs mo ad M0 σ) 0 0 149 [(0, .ref mo), (1, .int x1), (2, .int x2), (3, .int x3)] [] := by
  induction n generalizing σ x1 x2 x3 Fv with
  | zero => exact hS.elim
  | succ n ih =>
    unfold F_Mo_goOn_149 at hF
    unfold S_Mo_goOn_149 at hS
    refine g_iload_n C d_Mo_goOn_149 rfl ?_
    refine g_bipush (v := 10) C d_Mo_goOn_150 (by decide) ?_
    refine g_icmp_ge C 186 d_Mo_goOn_152 (by decide) (fun hc23 => ?_) (fun hc23 => ?_)
    · rw [if_pos hc23] at hF hS
      refine GW.subl [0, 1, 2] rfl ?_
      rw [← hF] at hk
      exact hk
    · rw [if_neg hc23] at hF hS
      refine g_aload_n C d_Mo_goOn_155 rfl ?_
      refine m_geta C hE 43 (by decide) (by decide) (by decide) kf_Mo_101 d_Mo_goOn_156 ?_
      refine g_bipush (v := 10) C d_Mo_goOn_159 (by decide) ?_
      refine g_aload_n C d_Mo_goOn_161 rfl ?_
      refine m_geti C hE 44 (by decide) (by decide) kf_Mo_283 d_Mo_goOn_162 ?_
      refine g_imul C d_Mo_goOn_165 ?_
      refine g_iload_n C d_Mo_goOn_166 rfl ?_
      refine g_iadd C d_Mo_goOn_167 ?_
      refine g_aload_n C d_Mo_goOn_168 rfl ?_
      refine m_geta C hE 66 (by decide) (by decide) (by decide) kf_Mo_136 d_Mo_goOn_169 ?_
      refine g_bipush (v := 10) C d_Mo_goOn_172 (by decide) ?_
      refine g_iload_n C d_Mo_goOn_174 rfl ?_
      refine g_imul C d_Mo_goOn_175 ?_
      refine g_iload_n C d_Mo_goOn_176 rfl ?_
      refine g_iadd C d_Mo_goOn_177 ?_
      obtain ⟨hi24, hS⟩ := hS
      refine m_lald C hE 66 (by decide) (by decide) hi24 d_Mo_goOn_178 ?_
      obtain ⟨hi25, hS⟩ := hS
      refine m_last C hE 43 (by decide) (by decide) hi25 d_Mo_goOn_179 ?_
      refine g_iinc (v := x3 + 1) (lv' := [(3, .int (x3 + 1)), (0, .ref mo), (1, .int x1), (2, .int x2)]) C d_Mo_goOn_180 rfl rfl (by decide) rfl ?_
      refine g_goto C 149 d_Mo_goOn_183 (by decide) ?_
      refine GW.subl [1, 2, 3, 0] rfl ?_
      exact ih (mo_al σ 43 ((10 * (σ.1 44)) + x3).toNatClampNeg (σ.2.2.2 66 ((10 * x2) + x3).toNatClampNeg)) x1 x2 (x3 + 1) Fv hS hF hk
def F_Mo_goOn_85 : Nat → mSt → Int32 → Int32 → mSt
  | 0, σ, _, _ => σ
  | n + 1, σ, x1, x2 => if ((σ.2.2.1 57 x1.toNatClampNeg) + (σ.2.2.1 58 x1.toNatClampNeg)) ≤ x2 then (σ) else (mbind (F_Mo_goOn_149 n (mo_al (mo_ai (mo_ai σ 40 (σ.1 44).toNatClampNeg (σ.2.2.1 63 x2.toNatClampNeg)) 41 ((mo_ai σ 40 (σ.1 44).toNatClampNeg (σ.2.2.1 63 x2.toNatClampNeg)).1 44).toNatClampNeg ((mo_ai σ 40 (σ.1 44).toNatClampNeg (σ.2.2.1 63 x2.toNatClampNeg)).2.2.1 64 x2.toNatClampNeg)) 42 ((mo_ai (mo_ai σ 40 (σ.1 44).toNatClampNeg (σ.2.2.1 63 x2.toNatClampNeg)) 41 ((mo_ai σ 40 (σ.1 44).toNatClampNeg (σ.2.2.1 63 x2.toNatClampNeg)).1 44).toNatClampNeg ((mo_ai σ 40 (σ.1 44).toNatClampNeg (σ.2.2.1 63 x2.toNatClampNeg)).2.2.1 64 x2.toNatClampNeg)).1 44).toNatClampNeg ((mo_ai (mo_ai σ 40 (σ.1 44).toNatClampNeg (σ.2.2.1 63 x2.toNatClampNeg)) 41 ((mo_ai σ 40 (σ.1 44).toNatClampNeg (σ.2.2.1 63 x2.toNatClampNeg)).1 44).toNatClampNeg ((mo_ai σ 40 (σ.1 44).toNatClampNeg (σ.2.2.1 63 x2.toNatClampNeg)).2.2.1 64 x2.toNatClampNeg)).2.2.2 65 x2.toNatClampNeg)) x1 x2 0) (fun w21 => F_Mo_goOn_85 n (mo_si w21.1 44 ((w21.1.1 44) + 1)) w21.2.1 (w21.2.2 + 1)))
def S_Mo_goOn_85 : Nat → mSt → Int32 → Int32 → Prop
  | 0, _, _, _ => False
  | n + 1, σ, x1, x2 => (vp_in x1 1000) ∧ ((vp_in x1 1000) ∧ (if ((σ.2.2.1 57 x1.toNatClampNeg) + (σ.2.2.1 58 x1.toNatClampNeg)) ≤ x2 then (True) else ((vp_in x2 42000) ∧ ((vp_in (σ.1 44) 17000) ∧ ((vp_in x2 42000) ∧ ((vp_in ((mo_ai σ 40 (σ.1 44).toNatClampNeg (σ.2.2.1 63 x2.toNatClampNeg)).1 44) 17000) ∧ ((vp_in x2 42000) ∧ ((vp_in ((mo_ai (mo_ai σ 40 (σ.1 44).toNatClampNeg (σ.2.2.1 63 x2.toNatClampNeg)) 41 ((mo_ai σ 40 (σ.1 44).toNatClampNeg (σ.2.2.1 63 x2.toNatClampNeg)).1 44).toNatClampNeg ((mo_ai σ 40 (σ.1 44).toNatClampNeg (σ.2.2.1 63 x2.toNatClampNeg)).2.2.1 64 x2.toNatClampNeg)).1 44) 17000) ∧ ((S_Mo_goOn_149 n (mo_al (mo_ai (mo_ai σ 40 (σ.1 44).toNatClampNeg (σ.2.2.1 63 x2.toNatClampNeg)) 41 ((mo_ai σ 40 (σ.1 44).toNatClampNeg (σ.2.2.1 63 x2.toNatClampNeg)).1 44).toNatClampNeg ((mo_ai σ 40 (σ.1 44).toNatClampNeg (σ.2.2.1 63 x2.toNatClampNeg)).2.2.1 64 x2.toNatClampNeg)) 42 ((mo_ai (mo_ai σ 40 (σ.1 44).toNatClampNeg (σ.2.2.1 63 x2.toNatClampNeg)) 41 ((mo_ai σ 40 (σ.1 44).toNatClampNeg (σ.2.2.1 63 x2.toNatClampNeg)).1 44).toNatClampNeg ((mo_ai σ 40 (σ.1 44).toNatClampNeg (σ.2.2.1 63 x2.toNatClampNeg)).2.2.1 64 x2.toNatClampNeg)).1 44).toNatClampNeg ((mo_ai (mo_ai σ 40 (σ.1 44).toNatClampNeg (σ.2.2.1 63 x2.toNatClampNeg)) 41 ((mo_ai σ 40 (σ.1 44).toNatClampNeg (σ.2.2.1 63 x2.toNatClampNeg)).1 44).toNatClampNeg ((mo_ai σ 40 (σ.1 44).toNatClampNeg (σ.2.2.1 63 x2.toNatClampNeg)).2.2.1 64 x2.toNatClampNeg)).2.2.2 65 x2.toNatClampNeg)) x1 x2 0) ∧ (mbind (F_Mo_goOn_149 n (mo_al (mo_ai (mo_ai σ 40 (σ.1 44).toNatClampNeg (σ.2.2.1 63 x2.toNatClampNeg)) 41 ((mo_ai σ 40 (σ.1 44).toNatClampNeg (σ.2.2.1 63 x2.toNatClampNeg)).1 44).toNatClampNeg ((mo_ai σ 40 (σ.1 44).toNatClampNeg (σ.2.2.1 63 x2.toNatClampNeg)).2.2.1 64 x2.toNatClampNeg)) 42 ((mo_ai (mo_ai σ 40 (σ.1 44).toNatClampNeg (σ.2.2.1 63 x2.toNatClampNeg)) 41 ((mo_ai σ 40 (σ.1 44).toNatClampNeg (σ.2.2.1 63 x2.toNatClampNeg)).1 44).toNatClampNeg ((mo_ai σ 40 (σ.1 44).toNatClampNeg (σ.2.2.1 63 x2.toNatClampNeg)).2.2.1 64 x2.toNatClampNeg)).1 44).toNatClampNeg ((mo_ai (mo_ai σ 40 (σ.1 44).toNatClampNeg (σ.2.2.1 63 x2.toNatClampNeg)) 41 ((mo_ai σ 40 (σ.1 44).toNatClampNeg (σ.2.2.1 63 x2.toNatClampNeg)).1 44).toNatClampNeg ((mo_ai σ 40 (σ.1 44).toNatClampNeg (σ.2.2.1 63 x2.toNatClampNeg)).2.2.1 64 x2.toNatClampNeg)).2.2.2 65 x2.toNatClampNeg)) x1 x2 0) (fun w21 => S_Mo_goOn_85 n (mo_si w21.1 44 ((w21.1.1 44) + 1)) w21.2.1 (w21.2.2 + 1))))))))))))
set_option maxRecDepth 100000 in
set_option maxHeartbeats 4000000 in
theorem w_Mo_goOn_85 {p : Program} {l : Launch} {e : Env} {s : State} {m : MethodId} {args : Array Value} {below : List Frame} {meth : Method} {c : Code} {D : va_G} {cs : Nat → ClassId} {B : Nat} {dE : Nat × Nat} {mo : Nat} {ad : Nat → Nat} {M0 : gMem} {Q : State → Prop} (C : CallFix p m c c_Mo_goOn 4 s args gT R_Mo) (hE : gEnv D gcl (gtys cs) gz B dE s) (n : Nat) (σ : mSt) (x1 : Int32) (x2 : Int32) (Fv : mSt) (hS : S_Mo_goOn_85 n σ x1 x2) (hF : F_Mo_goOn_85 n σ x1 x2 = Fv) (hk : GW p l e ({ frames := 0, cells := 0, slots := 0, locals := 0 } : Room) s m args below meth c 4 (gA B) Q (mo_P D B cs mo ad M0 Fv) 0 0 202 [(0, .ref mo)] []) : GW p l e ({ frames := 0, cells := 0, slots := 0, locals := 0 } : Room) s m args below meth c 4 (gA B) Q (mo_P D B cs mo ad M0 σ) 0 0 85 [(0, .ref mo), (1, .int x1), (2, .int x2)] [] := by
  induction n generalizing σ x1 x2 Fv with
  | zero => exact hS.elim
  | succ n ih =>
    unfold F_Mo_goOn_85 at hF
    unfold S_Mo_goOn_85 at hS
    refine g_iload_n C d_Mo_goOn_85 rfl ?_
    refine g_aload_n C d_Mo_goOn_86 rfl ?_
    refine m_geta C hE 57 (by decide) (by decide) (by decide) kf_Mo_113 d_Mo_goOn_87 ?_
    refine g_iload_n C d_Mo_goOn_90 rfl ?_
    obtain ⟨hi12, hS⟩ := hS
    refine m_ald C hE 57 (by decide) (by decide) hi12 d_Mo_goOn_91 ?_
    refine g_aload_n C d_Mo_goOn_92 rfl ?_
    refine m_geta C hE 58 (by decide) (by decide) (by decide) kf_Mo_116 d_Mo_goOn_93 ?_
    refine g_iload_n C d_Mo_goOn_96 rfl ?_
    obtain ⟨hi13, hS⟩ := hS
    refine m_ald C hE 58 (by decide) (by decide) hi13 d_Mo_goOn_97 ?_
    refine g_iadd C d_Mo_goOn_98 ?_
    refine g_icmp_ge C 202 d_Mo_goOn_99 (by decide) (fun hc14 => ?_) (fun hc14 => ?_)
    · rw [if_pos hc14] at hF hS
      refine GW.subl [0] rfl ?_
      rw [← hF] at hk
      exact hk
    · rw [if_neg hc14] at hF hS
      refine g_aload_n C d_Mo_goOn_102 rfl ?_
      refine m_geta C hE 40 (by decide) (by decide) (by decide) kf_Mo_90 d_Mo_goOn_103 ?_
      refine g_aload_n C d_Mo_goOn_106 rfl ?_
      refine m_geti C hE 44 (by decide) (by decide) kf_Mo_283 d_Mo_goOn_107 ?_
      refine g_aload_n C d_Mo_goOn_110 rfl ?_
      refine m_geta C hE 63 (by decide) (by decide) (by decide) kf_Mo_126 d_Mo_goOn_111 ?_
      refine g_iload_n C d_Mo_goOn_114 rfl ?_
      obtain ⟨hi15, hS⟩ := hS
      refine m_ald C hE 63 (by decide) (by decide) hi15 d_Mo_goOn_115 ?_
      obtain ⟨hi16, hS⟩ := hS
      refine m_ast C hE 40 (by decide) (by decide) hi16 d_Mo_goOn_116 ?_
      refine g_aload_n C d_Mo_goOn_117 rfl ?_
      refine m_geta C hE 41 (by decide) (by decide) (by decide) kf_Mo_93 d_Mo_goOn_118 ?_
      refine g_aload_n C d_Mo_goOn_121 rfl ?_
      refine m_geti C hE 44 (by decide) (by decide) kf_Mo_283 d_Mo_goOn_122 ?_
      refine g_aload_n C d_Mo_goOn_125 rfl ?_
      refine m_geta C hE 64 (by decide) (by decide) (by decide) kf_Mo_129 d_Mo_goOn_126 ?_
      refine g_iload_n C d_Mo_goOn_129 rfl ?_
      obtain ⟨hi17, hS⟩ := hS
      refine m_ald C hE 64 (by decide) (by decide) hi17 d_Mo_goOn_130 ?_
      obtain ⟨hi18, hS⟩ := hS
      refine m_ast C hE 41 (by decide) (by decide) hi18 d_Mo_goOn_131 ?_
      refine g_aload_n C d_Mo_goOn_132 rfl ?_
      refine m_geta C hE 42 (by decide) (by decide) (by decide) kf_Mo_96 d_Mo_goOn_133 ?_
      refine g_aload_n C d_Mo_goOn_136 rfl ?_
      refine m_geti C hE 44 (by decide) (by decide) kf_Mo_283 d_Mo_goOn_137 ?_
      refine g_aload_n C d_Mo_goOn_140 rfl ?_
      refine m_geta C hE 65 (by decide) (by decide) (by decide) kf_Mo_132 d_Mo_goOn_141 ?_
      refine g_iload_n C d_Mo_goOn_144 rfl ?_
      obtain ⟨hi19, hS⟩ := hS
      refine m_lald C hE 65 (by decide) (by decide) hi19 d_Mo_goOn_145 ?_
      obtain ⟨hi20, hS⟩ := hS
      refine m_last C hE 42 (by decide) (by decide) hi20 d_Mo_goOn_146 ?_
      refine g_iconst (v := 0) C d_Mo_goOn_147 (by decide) ?_
      refine g_istore_n (lv' := [(3, .int 0), (0, .ref mo), (1, .int x1), (2, .int x2)]) C d_Mo_goOn_148 (by decide) rfl ?_
      obtain ⟨hs22, hS⟩ := hS
      rw [mbind_eq] at hF hS
      refine GW.subl [1, 2, 3, 0] rfl ?_
      refine w_Mo_goOn_149 C hE n (mo_al (mo_ai (mo_ai σ 40 (σ.1 44).toNatClampNeg (σ.2.2.1 63 x2.toNatClampNeg)) 41 ((mo_ai σ 40 (σ.1 44).toNatClampNeg (σ.2.2.1 63 x2.toNatClampNeg)).1 44).toNatClampNeg ((mo_ai σ 40 (σ.1 44).toNatClampNeg (σ.2.2.1 63 x2.toNatClampNeg)).2.2.1 64 x2.toNatClampNeg)) 42 ((mo_ai (mo_ai σ 40 (σ.1 44).toNatClampNeg (σ.2.2.1 63 x2.toNatClampNeg)) 41 ((mo_ai σ 40 (σ.1 44).toNatClampNeg (σ.2.2.1 63 x2.toNatClampNeg)).1 44).toNatClampNeg ((mo_ai σ 40 (σ.1 44).toNatClampNeg (σ.2.2.1 63 x2.toNatClampNeg)).2.2.1 64 x2.toNatClampNeg)).1 44).toNatClampNeg ((mo_ai (mo_ai σ 40 (σ.1 44).toNatClampNeg (σ.2.2.1 63 x2.toNatClampNeg)) 41 ((mo_ai σ 40 (σ.1 44).toNatClampNeg (σ.2.2.1 63 x2.toNatClampNeg)).1 44).toNatClampNeg ((mo_ai σ 40 (σ.1 44).toNatClampNeg (σ.2.2.1 63 x2.toNatClampNeg)).2.2.1 64 x2.toNatClampNeg)).2.2.2 65 x2.toNatClampNeg)) x1 x2 0 _ hs22 rfl ?_
      generalize F_Mo_goOn_149 n (mo_al (mo_ai (mo_ai σ 40 (σ.1 44).toNatClampNeg (σ.2.2.1 63 x2.toNatClampNeg)) 41 ((mo_ai σ 40 (σ.1 44).toNatClampNeg (σ.2.2.1 63 x2.toNatClampNeg)).1 44).toNatClampNeg ((mo_ai σ 40 (σ.1 44).toNatClampNeg (σ.2.2.1 63 x2.toNatClampNeg)).2.2.1 64 x2.toNatClampNeg)) 42 ((mo_ai (mo_ai σ 40 (σ.1 44).toNatClampNeg (σ.2.2.1 63 x2.toNatClampNeg)) 41 ((mo_ai σ 40 (σ.1 44).toNatClampNeg (σ.2.2.1 63 x2.toNatClampNeg)).1 44).toNatClampNeg ((mo_ai σ 40 (σ.1 44).toNatClampNeg (σ.2.2.1 63 x2.toNatClampNeg)).2.2.1 64 x2.toNatClampNeg)).1 44).toNatClampNeg ((mo_ai (mo_ai σ 40 (σ.1 44).toNatClampNeg (σ.2.2.1 63 x2.toNatClampNeg)) 41 ((mo_ai σ 40 (σ.1 44).toNatClampNeg (σ.2.2.1 63 x2.toNatClampNeg)).1 44).toNatClampNeg ((mo_ai σ 40 (σ.1 44).toNatClampNeg (σ.2.2.1 63 x2.toNatClampNeg)).2.2.1 64 x2.toNatClampNeg)).2.2.2 65 x2.toNatClampNeg)) x1 x2 0 = w21 at hF hS ⊢
      refine g_aload_n C d_Mo_goOn_186 rfl ?_
      refine g_dup C d_Mo_goOn_187 rfl ?_
      refine m_geti C hE 44 (by decide) (by decide) kf_Mo_283 d_Mo_goOn_188 ?_
      refine g_iconst (v := 1) C d_Mo_goOn_191 (by decide) ?_
      refine g_iadd C d_Mo_goOn_192 ?_
      refine m_puti C hE 44 (by decide) (by decide) rfl rfl kf_Mo_283 d_Mo_goOn_193 ?_
      refine g_iinc (v := w21.2.2 + 1) (lv' := [(2, .int (w21.2.2 + 1)), (0, .ref mo), (1, .int w21.2.1)]) C d_Mo_goOn_196 rfl rfl (by decide) rfl ?_
      refine g_goto C 85 d_Mo_goOn_199 (by decide) ?_
      refine GW.subl [1, 2, 0] rfl ?_
      exact ih (mo_si w21.1 44 ((w21.1.1 44) + 1)) w21.2.1 (w21.2.2 + 1) Fv hS hF hk
def F_Mo_goOn (n : Nat) (σ : mSt) (x1 : Int32) : mSt := if (σ.2.2.1 60 x1.toNatClampNeg) = 0 then (if ((σ.1 49) + (σ.2.2.1 59 x1.toNatClampNeg)) ≤ 400 then (mbind (F_Mo_goOn_85 n (mo_si (mo_ai (mo_si σ 44 ((σ.1 44) - 1)) 60 x1.toNatClampNeg 1) 49 (((mo_ai (mo_si σ 44 ((σ.1 44) - 1)) 60 x1.toNatClampNeg 1).1 49) + ((mo_ai (mo_si σ 44 ((σ.1 44) - 1)) 60 x1.toNatClampNeg 1).2.2.1 59 x1.toNatClampNeg))) x1 ((mo_si (mo_ai (mo_si σ 44 ((σ.1 44) - 1)) 60 x1.toNatClampNeg 1) 49 (((mo_ai (mo_si σ 44 ((σ.1 44) - 1)) 60 x1.toNatClampNeg 1).1 49) + ((mo_ai (mo_si σ 44 ((σ.1 44) - 1)) 60 x1.toNatClampNeg 1).2.2.1 59 x1.toNatClampNeg))).2.2.1 57 x1.toNatClampNeg)) (fun w8 => mo_si w8 51 1)) else (F_Mo_goOn_j26 n σ x1)) else (F_Mo_goOn_j26 n σ x1)
def S_Mo_goOn (n : Nat) (σ : mSt) (x1 : Int32) : Prop := (vp_in x1 1000) ∧ (if (σ.2.2.1 60 x1.toNatClampNeg) = 0 then ((vp_in x1 1000) ∧ (if ((σ.1 49) + (σ.2.2.1 59 x1.toNatClampNeg)) ≤ 400 then ((vp_in x1 1000) ∧ ((vp_in x1 1000) ∧ ((vp_in x1 1000) ∧ ((S_Mo_goOn_85 n (mo_si (mo_ai (mo_si σ 44 ((σ.1 44) - 1)) 60 x1.toNatClampNeg 1) 49 (((mo_ai (mo_si σ 44 ((σ.1 44) - 1)) 60 x1.toNatClampNeg 1).1 49) + ((mo_ai (mo_si σ 44 ((σ.1 44) - 1)) 60 x1.toNatClampNeg 1).2.2.1 59 x1.toNatClampNeg))) x1 ((mo_si (mo_ai (mo_si σ 44 ((σ.1 44) - 1)) 60 x1.toNatClampNeg 1) 49 (((mo_ai (mo_si σ 44 ((σ.1 44) - 1)) 60 x1.toNatClampNeg 1).1 49) + ((mo_ai (mo_si σ 44 ((σ.1 44) - 1)) 60 x1.toNatClampNeg 1).2.2.1 59 x1.toNatClampNeg))).2.2.1 57 x1.toNatClampNeg)) ∧ (mbind (F_Mo_goOn_85 n (mo_si (mo_ai (mo_si σ 44 ((σ.1 44) - 1)) 60 x1.toNatClampNeg 1) 49 (((mo_ai (mo_si σ 44 ((σ.1 44) - 1)) 60 x1.toNatClampNeg 1).1 49) + ((mo_ai (mo_si σ 44 ((σ.1 44) - 1)) 60 x1.toNatClampNeg 1).2.2.1 59 x1.toNatClampNeg))) x1 ((mo_si (mo_ai (mo_si σ 44 ((σ.1 44) - 1)) 60 x1.toNatClampNeg 1) 49 (((mo_ai (mo_si σ 44 ((σ.1 44) - 1)) 60 x1.toNatClampNeg 1).1 49) + ((mo_ai (mo_si σ 44 ((σ.1 44) - 1)) 60 x1.toNatClampNeg 1).2.2.1 59 x1.toNatClampNeg))).2.2.1 57 x1.toNatClampNeg)) (fun w8 => True)))))) else (S_Mo_goOn_j26 n σ x1))) else (S_Mo_goOn_j26 n σ x1))
set_option maxRecDepth 100000 in
set_option maxHeartbeats 4000000 in
theorem mc_Mo_goOn (l : Launch) (D : va_G) (cs : Nat → ClassId) (B : Nat) (dE : Nat × Nat) (mo : Nat) (ad : Nat → Nat) (n : Nat) (σ : mSt) (x1 : Int32) (hS : S_Mo_goOn n σ x1) : mMet l y_Mo_goOn (Cond.code y_Mo_goOn c_Mo_goOn 4 none) ({ frames := 0, cells := 0, slots := 0, locals := 0 } : Room) D cs B dE mo ad [.ref mo, .int x1] σ (fun r σ' => r = none ∧ σ' = F_Mo_goOn n σ x1) := by
  refine mMet.ofW (by decide) rfl (Nat.le_of_ble_eq_true rfl) (lv0 := [(0, .ref mo), (1, .int x1)]) rfl ?_
  intro p e s m args below meth c M0 C hE hr hlocks
  generalize hF : F_Mo_goOn n σ x1 = Fv
  unfold F_Mo_goOn at hF
  unfold S_Mo_goOn at hS
  refine g_aload_n C d_Mo_goOn_0 rfl ?_
  refine m_geta C hE 60 (by decide) (by decide) (by decide) kf_Mo_122 d_Mo_goOn_1 ?_
  refine g_iload_n C d_Mo_goOn_4 rfl ?_
  obtain ⟨hi1, hS⟩ := hS
  refine m_zald C hE 60 (by decide) (by decide) hi1 d_Mo_goOn_5 ?_
  refine g_if_ne C 26 d_Mo_goOn_6 (by decide) (fun hc2 => ?_) (fun hc2 => ?_)
  · rw [if_neg hc2] at hF hS
    refine GW.subl [0, 1] rfl ?_
    exact w_Mo_goOn_j26 C hE hr hlocks n σ x1 Fv hS hF
  · rw [if_pos hc2] at hF hS
    refine g_aload_n C d_Mo_goOn_9 rfl ?_
    refine m_geti C hE 49 (by decide) (by decide) kf_Mo_180 d_Mo_goOn_10 ?_
    refine g_aload_n C d_Mo_goOn_13 rfl ?_
    refine m_geta C hE 59 (by decide) (by decide) (by decide) kf_Mo_119 d_Mo_goOn_14 ?_
    refine g_iload_n C d_Mo_goOn_17 rfl ?_
    obtain ⟨hi3, hS⟩ := hS
    refine m_ald C hE 59 (by decide) (by decide) hi3 d_Mo_goOn_18 ?_
    refine g_iadd C d_Mo_goOn_19 ?_
    refine g_sipush (v := 400) C d_Mo_goOn_20 (by decide) ?_
    refine g_icmp_le C 46 d_Mo_goOn_23 (by decide) (fun hc4 => ?_) (fun hc4 => ?_)
    · rw [if_pos hc4] at hF hS
      refine g_aload_n C d_Mo_goOn_46 rfl ?_
      refine g_dup C d_Mo_goOn_47 rfl ?_
      refine m_geti C hE 44 (by decide) (by decide) kf_Mo_283 d_Mo_goOn_48 ?_
      refine g_iconst (v := 1) C d_Mo_goOn_51 (by decide) ?_
      refine g_isub C d_Mo_goOn_52 ?_
      refine m_puti C hE 44 (by decide) (by decide) rfl rfl kf_Mo_283 d_Mo_goOn_53 ?_
      refine g_aload_n C d_Mo_goOn_56 rfl ?_
      refine m_geta C hE 60 (by decide) (by decide) (by decide) kf_Mo_122 d_Mo_goOn_57 ?_
      refine g_iload_n C d_Mo_goOn_60 rfl ?_
      refine g_iconst (v := 1) C d_Mo_goOn_61 (by decide) ?_
      obtain ⟨hi5, hS⟩ := hS
      refine m_zast C hE 60 (by decide) (by decide) (by decide) hi5 d_Mo_goOn_62 ?_
      refine g_aload_n C d_Mo_goOn_63 rfl ?_
      refine g_dup C d_Mo_goOn_64 rfl ?_
      refine m_geti C hE 49 (by decide) (by decide) kf_Mo_180 d_Mo_goOn_65 ?_
      refine g_aload_n C d_Mo_goOn_68 rfl ?_
      refine m_geta C hE 59 (by decide) (by decide) (by decide) kf_Mo_119 d_Mo_goOn_69 ?_
      refine g_iload_n C d_Mo_goOn_72 rfl ?_
      obtain ⟨hi6, hS⟩ := hS
      refine m_ald C hE 59 (by decide) (by decide) hi6 d_Mo_goOn_73 ?_
      refine g_iadd C d_Mo_goOn_74 ?_
      refine m_puti C hE 49 (by decide) (by decide) rfl rfl kf_Mo_180 d_Mo_goOn_75 ?_
      refine g_aload_n C d_Mo_goOn_78 rfl ?_
      refine m_geta C hE 57 (by decide) (by decide) (by decide) kf_Mo_113 d_Mo_goOn_79 ?_
      refine g_iload_n C d_Mo_goOn_82 rfl ?_
      obtain ⟨hi7, hS⟩ := hS
      refine m_ald C hE 57 (by decide) (by decide) hi7 d_Mo_goOn_83 ?_
      refine g_istore_n (lv' := [(2, .int ((mo_si (mo_ai (mo_si σ 44 ((σ.1 44) - 1)) 60 x1.toNatClampNeg 1) 49 (((mo_ai (mo_si σ 44 ((σ.1 44) - 1)) 60 x1.toNatClampNeg 1).1 49) + ((mo_ai (mo_si σ 44 ((σ.1 44) - 1)) 60 x1.toNatClampNeg 1).2.2.1 59 x1.toNatClampNeg))).2.2.1 57 x1.toNatClampNeg)), (0, .ref mo), (1, .int x1)]) C d_Mo_goOn_84 (by decide) rfl ?_
      obtain ⟨hs9, hS⟩ := hS
      rw [mbind_eq] at hF hS
      refine GW.subl [1, 2, 0] rfl ?_
      refine w_Mo_goOn_85 C hE n (mo_si (mo_ai (mo_si σ 44 ((σ.1 44) - 1)) 60 x1.toNatClampNeg 1) 49 (((mo_ai (mo_si σ 44 ((σ.1 44) - 1)) 60 x1.toNatClampNeg 1).1 49) + ((mo_ai (mo_si σ 44 ((σ.1 44) - 1)) 60 x1.toNatClampNeg 1).2.2.1 59 x1.toNatClampNeg))) x1 ((mo_si (mo_ai (mo_si σ 44 ((σ.1 44) - 1)) 60 x1.toNatClampNeg 1) 49 (((mo_ai (mo_si σ 44 ((σ.1 44) - 1)) 60 x1.toNatClampNeg 1).1 49) + ((mo_ai (mo_si σ 44 ((σ.1 44) - 1)) 60 x1.toNatClampNeg 1).2.2.1 59 x1.toNatClampNeg))).2.2.1 57 x1.toNatClampNeg) _ hs9 rfl ?_
      generalize F_Mo_goOn_85 n (mo_si (mo_ai (mo_si σ 44 ((σ.1 44) - 1)) 60 x1.toNatClampNeg 1) 49 (((mo_ai (mo_si σ 44 ((σ.1 44) - 1)) 60 x1.toNatClampNeg 1).1 49) + ((mo_ai (mo_si σ 44 ((σ.1 44) - 1)) 60 x1.toNatClampNeg 1).2.2.1 59 x1.toNatClampNeg))) x1 ((mo_si (mo_ai (mo_si σ 44 ((σ.1 44) - 1)) 60 x1.toNatClampNeg 1) 49 (((mo_ai (mo_si σ 44 ((σ.1 44) - 1)) 60 x1.toNatClampNeg 1).1 49) + ((mo_ai (mo_si σ 44 ((σ.1 44) - 1)) 60 x1.toNatClampNeg 1).2.2.1 59 x1.toNatClampNeg))).2.2.1 57 x1.toNatClampNeg) = w8 at hF hS ⊢
      refine g_aload_n C d_Mo_goOn_202 rfl ?_
      refine g_iconst (v := 1) C d_Mo_goOn_203 (by decide) ?_
      refine m_putz C hE 51 (by decide) (by decide) rfl rfl (by decide) kf_Mo_289 d_Mo_goOn_204 ?_
      exact m_vret C hr hlocks d_Mo_goOn_207 (by rw [← hF]; exact ⟨rfl, rfl⟩)
    · rw [if_neg hc4] at hF hS
      refine GW.subl [0, 1] rfl ?_
      exact w_Mo_goOn_j26 C hE hr hlocks n σ x1 Fv hS hF
def F_Mo_clauseOf_7 : Nat → mSt → Int32 → Int32 → Int32 → Int32 × mSt
  | 0, σ, _, _, _ => (0, σ)
  | n + 1, σ, x1, x2, x3 => if ((σ.2.2.1 14 x1.toNatClampNeg) + (σ.2.2.1 15 x1.toNatClampNeg)) ≤ x3 then (((-1), σ)) else (if (σ.2.2.1 16 x3.toNatClampNeg) = x2 then ((x3, σ)) else (F_Mo_clauseOf_7 n σ x1 x2 (x3 + 1)))
def S_Mo_clauseOf_7 : Nat → mSt → Int32 → Int32 → Int32 → Prop
  | 0, _, _, _, _ => False
  | n + 1, σ, x1, x2, x3 => (vp_in x1 200) ∧ ((vp_in x1 200) ∧ (if ((σ.2.2.1 14 x1.toNatClampNeg) + (σ.2.2.1 15 x1.toNatClampNeg)) ≤ x3 then (True) else ((vp_in x3 40) ∧ (if (σ.2.2.1 16 x3.toNatClampNeg) = x2 then (True) else (S_Mo_clauseOf_7 n σ x1 x2 (x3 + 1))))))
set_option maxRecDepth 100000 in
set_option maxHeartbeats 4000000 in
theorem w_Mo_clauseOf_7 {p : Program} {l : Launch} {e : Env} {s : State} {m : MethodId} {args : Array Value} {below : List Frame} {meth : Method} {c : Code} {D : va_G} {cs : Nat → ClassId} {B : Nat} {dE : Nat × Nat} {mo : Nat} {ad : Nat → Nat} {M0 : gMem} (C : CallFix p m c c_Mo_clauseOf 4 s args gT R_Mo) (hE : gEnv D gcl (gtys cs) gz B dE s) (hr : meth.sig.returnType = (some .int)) (hlocks : meth.locks = false) (n : Nat) (σ : mSt) (x1 : Int32) (x2 : Int32) (x3 : Int32) (Fv : Int32 × mSt) (hS : S_Mo_clauseOf_7 n σ x1 x2 x3) (hF : F_Mo_clauseOf_7 n σ x1 x2 x3 = Fv) : GW p l e ({ frames := 0, cells := 0, slots := 0, locals := 0 } : Room) s m args below meth c 4 (gA B) (mQ below D cs B mo ad M0 (fun r σ' => r = some (.int Fv.1) ∧ σ' = Fv.2) args s) (mo_P D B cs mo ad M0 σ) 0 0 7 [(0, .ref mo), (1, .int x1), (2, .int x2), (3, .int x3)] [] := by
  induction n generalizing σ x1 x2 x3 Fv with
  | zero => exact hS.elim
  | succ n ih =>
    unfold F_Mo_clauseOf_7 at hF
    unfold S_Mo_clauseOf_7 at hS
    refine g_iload_n C d_Mo_clauseOf_7 rfl ?_
    refine g_aload_n C d_Mo_clauseOf_8 rfl ?_
    refine m_geta C hE 14 (by decide) (by decide) (by decide) kf_Mo_37 d_Mo_clauseOf_9 ?_
    refine g_iload_n C d_Mo_clauseOf_12 rfl ?_
    obtain ⟨hi2, hS⟩ := hS
    refine m_ald C hE 14 (by decide) (by decide) hi2 d_Mo_clauseOf_13 ?_
    refine g_aload_n C d_Mo_clauseOf_14 rfl ?_
    refine m_geta C hE 15 (by decide) (by decide) (by decide) kf_Mo_40 d_Mo_clauseOf_15 ?_
    refine g_iload_n C d_Mo_clauseOf_18 rfl ?_
    obtain ⟨hi3, hS⟩ := hS
    refine m_ald C hE 15 (by decide) (by decide) hi3 d_Mo_clauseOf_19 ?_
    refine g_iadd C d_Mo_clauseOf_20 ?_
    refine g_icmp_ge C 42 d_Mo_clauseOf_21 (by decide) (fun hc4 => ?_) (fun hc4 => ?_)
    · rw [if_pos hc4] at hF hS
      refine g_iconst (v := (-1)) C d_Mo_clauseOf_42 (by decide) ?_
      exact m_iret C hr hlocks d_Mo_clauseOf_43 (by rw [← hF]; exact ⟨rfl, rfl⟩)
    · rw [if_neg hc4] at hF hS
      refine g_aload_n C d_Mo_clauseOf_24 rfl ?_
      refine m_geta C hE 16 (by decide) (by decide) (by decide) kf_Mo_43 d_Mo_clauseOf_25 ?_
      refine g_iload_n C d_Mo_clauseOf_28 rfl ?_
      obtain ⟨hi5, hS⟩ := hS
      refine m_ald C hE 16 (by decide) (by decide) hi5 d_Mo_clauseOf_29 ?_
      refine g_iload_n C d_Mo_clauseOf_30 rfl ?_
      refine g_icmp_ne C 36 d_Mo_clauseOf_31 (by decide) (fun hc6 => ?_) (fun hc6 => ?_)
      · rw [if_neg hc6] at hF hS
        refine g_iinc (v := x3 + 1) (lv' := [(3, .int (x3 + 1)), (0, .ref mo), (1, .int x1), (2, .int x2)]) C d_Mo_clauseOf_36 rfl rfl (by decide) rfl ?_
        refine g_goto C 7 d_Mo_clauseOf_39 (by decide) ?_
        refine GW.subl [1, 2, 3, 0] rfl ?_
        exact ih σ x1 x2 (x3 + 1) Fv hS hF
      · rw [if_pos hc6] at hF hS
        refine g_iload_n C d_Mo_clauseOf_34 rfl ?_
        exact m_iret C hr hlocks d_Mo_clauseOf_35 (by rw [← hF]; exact ⟨rfl, rfl⟩)
def F_Mo_clauseOf (n : Nat) (σ : mSt) (x1 : Int32) (x2 : Int32) : Int32 × mSt := F_Mo_clauseOf_7 n σ x1 x2 (σ.2.2.1 14 x1.toNatClampNeg)
def S_Mo_clauseOf (n : Nat) (σ : mSt) (x1 : Int32) (x2 : Int32) : Prop := (vp_in x1 200) ∧ (S_Mo_clauseOf_7 n σ x1 x2 (σ.2.2.1 14 x1.toNatClampNeg))
set_option maxRecDepth 100000 in
set_option maxHeartbeats 4000000 in
theorem mc_Mo_clauseOf (l : Launch) (D : va_G) (cs : Nat → ClassId) (B : Nat) (dE : Nat × Nat) (mo : Nat) (ad : Nat → Nat) (n : Nat) (σ : mSt) (x1 : Int32) (x2 : Int32) (hS : S_Mo_clauseOf n σ x1 x2) : mMet l y_Mo_clauseOf (Cond.code y_Mo_clauseOf c_Mo_clauseOf 4 (some .int)) ({ frames := 0, cells := 0, slots := 0, locals := 0 } : Room) D cs B dE mo ad [.ref mo, .int x1, .int x2] σ (fun r σ' => r = some (.int (F_Mo_clauseOf n σ x1 x2).1) ∧ σ' = (F_Mo_clauseOf n σ x1 x2).2) := by
  refine mMet.ofW (by decide) rfl (Nat.le_of_ble_eq_true rfl) (lv0 := [(0, .ref mo), (1, .int x1), (2, .int x2)]) rfl ?_
  intro p e s m args below meth c M0 C hE hr hlocks
  generalize hF : F_Mo_clauseOf n σ x1 x2 = Fv
  unfold F_Mo_clauseOf at hF
  unfold S_Mo_clauseOf at hS
  refine g_aload_n C d_Mo_clauseOf_0 rfl ?_
  refine m_geta C hE 14 (by decide) (by decide) (by decide) kf_Mo_37 d_Mo_clauseOf_1 ?_
  refine g_iload_n C d_Mo_clauseOf_4 rfl ?_
  obtain ⟨hi1, hS⟩ := hS
  refine m_ald C hE 14 (by decide) (by decide) hi1 d_Mo_clauseOf_5 ?_
  refine g_istore_n (lv' := [(3, .int (σ.2.2.1 14 x1.toNatClampNeg)), (0, .ref mo), (1, .int x1), (2, .int x2)]) C d_Mo_clauseOf_6 (by decide) rfl ?_
  refine GW.subl [1, 2, 3, 0] rfl ?_
  exact w_Mo_clauseOf_7 C hE hr hlocks n σ x1 x2 (σ.2.2.1 14 x1.toNatClampNeg) Fv hS hF
def F_Mo_counted (σ : mSt) (x1 : Int32) : Int32 × mSt := if (σ.2.2.1 40 x1.toNatClampNeg) = (-1) then ((1, σ)) else (if (σ.2.2.1 5 (σ.2.2.1 40 x1.toNatClampNeg).toNatClampNeg) = 8 then ((1, σ)) else ((0, σ)))
def S_Mo_counted (σ : mSt) (x1 : Int32) : Prop := (vp_in x1 17000) ∧ (if (σ.2.2.1 40 x1.toNatClampNeg) = (-1) then (True) else ((vp_in x1 17000) ∧ ((vp_in (σ.2.2.1 40 x1.toNatClampNeg) 200) ∧ (if (σ.2.2.1 5 (σ.2.2.1 40 x1.toNatClampNeg).toNatClampNeg) = 8 then (True) else (True)))))
set_option maxRecDepth 100000 in
set_option maxHeartbeats 4000000 in
theorem mc_Mo_counted (l : Launch) (D : va_G) (cs : Nat → ClassId) (B : Nat) (dE : Nat × Nat) (mo : Nat) (ad : Nat → Nat) (σ : mSt) (x1 : Int32) (hS : S_Mo_counted σ x1) : mMet l y_Mo_counted (Cond.code y_Mo_counted c_Mo_counted 2 (some .boolean)) ({ frames := 0, cells := 0, slots := 0, locals := 0 } : Room) D cs B dE mo ad [.ref mo, .int x1] σ (fun r σ' => r = some (.int (F_Mo_counted σ x1).1) ∧ σ' = (F_Mo_counted σ x1).2) := by
  refine mMet.ofW (by decide) rfl (Nat.le_of_ble_eq_true rfl) (lv0 := [(0, .ref mo), (1, .int x1)]) rfl ?_
  intro p e s m args below meth c M0 C hE hr hlocks
  generalize hF : F_Mo_counted σ x1 = Fv
  unfold F_Mo_counted at hF
  unfold S_Mo_counted at hS
  refine g_aload_n C d_Mo_counted_0 rfl ?_
  refine m_geta C hE 40 (by decide) (by decide) (by decide) kf_Mo_90 d_Mo_counted_1 ?_
  refine g_iload_n C d_Mo_counted_4 rfl ?_
  obtain ⟨hi1, hS⟩ := hS
  refine m_ald C hE 40 (by decide) (by decide) hi1 d_Mo_counted_5 ?_
  refine g_iconst (v := (-1)) C d_Mo_counted_6 (by decide) ?_
  refine g_icmp_eq C 26 d_Mo_counted_7 (by decide) (fun hc2 => ?_) (fun hc2 => ?_)
  · rw [if_pos hc2] at hF hS
    refine g_iconst (v := 1) C d_Mo_counted_26 (by decide) ?_
    refine g_goto C 31 d_Mo_counted_27 (by decide) ?_
    exact m_zret C hr hlocks (by decide) d_Mo_counted_31 (by rw [← hF]; exact ⟨rfl, rfl⟩)
  · rw [if_neg hc2] at hF hS
    refine g_aload_n C d_Mo_counted_10 rfl ?_
    refine m_geta C hE 5 (by decide) (by decide) (by decide) kf_Mo_7 d_Mo_counted_11 ?_
    refine g_aload_n C d_Mo_counted_14 rfl ?_
    refine m_geta C hE 40 (by decide) (by decide) (by decide) kf_Mo_90 d_Mo_counted_15 ?_
    refine g_iload_n C d_Mo_counted_18 rfl ?_
    obtain ⟨hi3, hS⟩ := hS
    refine m_ald C hE 40 (by decide) (by decide) hi3 d_Mo_counted_19 ?_
    obtain ⟨hi4, hS⟩ := hS
    refine m_ald C hE 5 (by decide) (by decide) hi4 d_Mo_counted_20 ?_
    refine g_bipush (v := 8) C d_Mo_counted_21 (by decide) ?_
    refine g_icmp_ne C 30 d_Mo_counted_23 (by decide) (fun hc5 => ?_) (fun hc5 => ?_)
    · rw [if_neg hc5] at hF hS
      refine g_iconst (v := 0) C d_Mo_counted_30 (by decide) ?_
      exact m_zret C hr hlocks (by decide) d_Mo_counted_31 (by rw [← hF]; exact ⟨rfl, rfl⟩)
    · rw [if_pos hc5] at hF hS
      refine g_iconst (v := 1) C d_Mo_counted_26 (by decide) ?_
      refine g_goto C 31 d_Mo_counted_27 (by decide) ?_
      exact m_zret C hr hlocks (by decide) d_Mo_counted_31 (by rw [← hF]; exact ⟨rfl, rfl⟩)
def F_Mo_keep_115 : Nat → mSt → Int32 → Int32 → Int32 → mSt × Int32 × Int32
  | 0, σ, _, _, _ => (σ, 0, 0)
  | n + 1, σ, x2, x4, x5 => if 10 ≤ x5 then ((σ, x2, x4)) else (F_Mo_keep_115 n (mo_al σ 66 ((10 * (σ.1 62)) + x5).toNatClampNeg (σ.2.2.2 43 ((10 * x4) + x5).toNatClampNeg)) x2 x4 (x5 + 1))
def S_Mo_keep_115 : Nat → mSt → Int32 → Int32 → Int32 → Prop
  | 0, _, _, _, _ => False
  | n + 1, σ, x2, x4, x5 => if 10 ≤ x5 then (True) else ((vp_in ((10 * x4) + x5) 170000) ∧ ((vp_in ((10 * (σ.1 62)) + x5) 420000) ∧ (S_Mo_keep_115 n (mo_al σ 66 ((10 * (σ.1 62)) + x5).toNatClampNeg (σ.2.2.2 43 ((10 * x4) + x5).toNatClampNeg)) x2 x4 (x5 + 1))))
set_option maxRecDepth 100000 in
set_option maxHeartbeats 4000000 in
theorem w_Mo_keep_115 {p : Program} {l : Launch} {e : Env} {s : State} {m : MethodId} {args : Array Value} {below : List Frame} {meth : Method} {c : Code} {D : va_G} {cs : Nat → ClassId} {B : Nat} {dE : Nat × Nat} {mo : Nat} {ad : Nat → Nat} {M0 : gMem} {Q : State → Prop} (C : CallFix p m c c_Mo_keep 6 s args gT R_Mo) (hE : gEnv D gcl (gtys cs) gz B dE s) (n : Nat) (σ : mSt) (x2 : Int32) (x4 : Int32) (x5 : Int32) (Fv : mSt × Int32 × Int32) (hS : S_Mo_keep_115 n σ x2 x4 x5) (hF : F_Mo_keep_115 n σ x2 x4 x5 = Fv) (hk : GW p l e ({ frames := 0, cells := 0, slots := 0, locals := 0 } : Room) s m args below meth c 6 (gA B) Q (mo_P D B cs mo ad M0 Fv.1) 0 0 156 [(0, .ref mo), (2, .int Fv.2.1), (4, .int Fv.2.2)] []) : GW p l e ({ frames := 0, cells := 0, slots := 0, locals := 0 } : Room) s m args below meth c 6 (gA B) Q (mo_P D B cs mo ad M0 σ) 0 0 115 [(0, .ref mo), (2, .int x2), (4, .int x4), (5, .int x5)] [] := by
  induction n generalizing σ x2 x4 x5 Fv with
  | zero => exact hS.elim
  | succ n ih =>
    unfold F_Mo_keep_115 at hF
    unfold S_Mo_keep_115 at hS
    refine g_iload C d_Mo_keep_115 rfl ?_
    refine g_bipush (v := 10) C d_Mo_keep_117 (by decide) ?_
    refine g_icmp_ge C 156 d_Mo_keep_119 (by decide) (fun hc16 => ?_) (fun hc16 => ?_)
    · rw [if_pos hc16] at hF hS
      refine GW.subl [0, 1, 2] rfl ?_
      rw [← hF] at hk
      exact hk
    · rw [if_neg hc16] at hF hS
      refine g_aload_n C d_Mo_keep_122 rfl ?_
      refine m_geta C hE 66 (by decide) (by decide) (by decide) kf_Mo_136 d_Mo_keep_123 ?_
      refine g_bipush (v := 10) C d_Mo_keep_126 (by decide) ?_
      refine g_aload_n C d_Mo_keep_128 rfl ?_
      refine m_geti C hE 62 (by decide) (by decide) kf_Mo_298 d_Mo_keep_129 ?_
      refine g_imul C d_Mo_keep_132 ?_
      refine g_iload C d_Mo_keep_133 rfl ?_
      refine g_iadd C d_Mo_keep_135 ?_
      refine g_aload_n C d_Mo_keep_136 rfl ?_
      refine m_geta C hE 43 (by decide) (by decide) (by decide) kf_Mo_101 d_Mo_keep_137 ?_
      refine g_bipush (v := 10) C d_Mo_keep_140 (by decide) ?_
      refine g_iload C d_Mo_keep_142 rfl ?_
      refine g_imul C d_Mo_keep_144 ?_
      refine g_iload C d_Mo_keep_145 rfl ?_
      refine g_iadd C d_Mo_keep_147 ?_
      obtain ⟨hi17, hS⟩ := hS
      refine m_lald C hE 43 (by decide) (by decide) hi17 d_Mo_keep_148 ?_
      obtain ⟨hi18, hS⟩ := hS
      refine m_last C hE 66 (by decide) (by decide) hi18 d_Mo_keep_149 ?_
      refine g_iinc (v := x5 + 1) (lv' := [(5, .int (x5 + 1)), (0, .ref mo), (2, .int x2), (4, .int x4)]) C d_Mo_keep_150 rfl rfl (by decide) rfl ?_
      refine g_goto C 115 d_Mo_keep_153 (by decide) ?_
      refine GW.subl [1, 2, 3, 0] rfl ?_
      exact ih (mo_al σ 66 ((10 * (σ.1 62)) + x5).toNatClampNeg (σ.2.2.2 43 ((10 * x4) + x5).toNatClampNeg)) x2 x4 (x5 + 1) Fv hS hF hk
def F_Mo_keep_58 : Nat → mSt → Int32 → Int32 → mSt
  | 0, σ, _, _ => σ
  | n + 1, σ, x2, x4 => if x2 ≤ x4 then (σ) else (mbind (F_Mo_keep_115 n (mo_al (mo_ai (mo_ai σ 63 (σ.1 62).toNatClampNeg (σ.2.2.1 40 x4.toNatClampNeg)) 64 ((mo_ai σ 63 (σ.1 62).toNatClampNeg (σ.2.2.1 40 x4.toNatClampNeg)).1 62).toNatClampNeg ((mo_ai σ 63 (σ.1 62).toNatClampNeg (σ.2.2.1 40 x4.toNatClampNeg)).2.2.1 41 x4.toNatClampNeg)) 65 ((mo_ai (mo_ai σ 63 (σ.1 62).toNatClampNeg (σ.2.2.1 40 x4.toNatClampNeg)) 64 ((mo_ai σ 63 (σ.1 62).toNatClampNeg (σ.2.2.1 40 x4.toNatClampNeg)).1 62).toNatClampNeg ((mo_ai σ 63 (σ.1 62).toNatClampNeg (σ.2.2.1 40 x4.toNatClampNeg)).2.2.1 41 x4.toNatClampNeg)).1 62).toNatClampNeg ((mo_ai (mo_ai σ 63 (σ.1 62).toNatClampNeg (σ.2.2.1 40 x4.toNatClampNeg)) 64 ((mo_ai σ 63 (σ.1 62).toNatClampNeg (σ.2.2.1 40 x4.toNatClampNeg)).1 62).toNatClampNeg ((mo_ai σ 63 (σ.1 62).toNatClampNeg (σ.2.2.1 40 x4.toNatClampNeg)).2.2.1 41 x4.toNatClampNeg)).2.2.2 42 x4.toNatClampNeg)) x2 x4 0) (fun w14 => F_Mo_keep_58 n (mo_si w14.1 62 ((w14.1.1 62) + 1)) w14.2.1 (w14.2.2 + 1)))
def S_Mo_keep_58 : Nat → mSt → Int32 → Int32 → Prop
  | 0, _, _, _ => False
  | n + 1, σ, x2, x4 => if x2 ≤ x4 then (True) else ((vp_in x4 17000) ∧ ((vp_in (σ.1 62) 42000) ∧ ((vp_in x4 17000) ∧ ((vp_in ((mo_ai σ 63 (σ.1 62).toNatClampNeg (σ.2.2.1 40 x4.toNatClampNeg)).1 62) 42000) ∧ ((vp_in x4 17000) ∧ ((vp_in ((mo_ai (mo_ai σ 63 (σ.1 62).toNatClampNeg (σ.2.2.1 40 x4.toNatClampNeg)) 64 ((mo_ai σ 63 (σ.1 62).toNatClampNeg (σ.2.2.1 40 x4.toNatClampNeg)).1 62).toNatClampNeg ((mo_ai σ 63 (σ.1 62).toNatClampNeg (σ.2.2.1 40 x4.toNatClampNeg)).2.2.1 41 x4.toNatClampNeg)).1 62) 42000) ∧ ((S_Mo_keep_115 n (mo_al (mo_ai (mo_ai σ 63 (σ.1 62).toNatClampNeg (σ.2.2.1 40 x4.toNatClampNeg)) 64 ((mo_ai σ 63 (σ.1 62).toNatClampNeg (σ.2.2.1 40 x4.toNatClampNeg)).1 62).toNatClampNeg ((mo_ai σ 63 (σ.1 62).toNatClampNeg (σ.2.2.1 40 x4.toNatClampNeg)).2.2.1 41 x4.toNatClampNeg)) 65 ((mo_ai (mo_ai σ 63 (σ.1 62).toNatClampNeg (σ.2.2.1 40 x4.toNatClampNeg)) 64 ((mo_ai σ 63 (σ.1 62).toNatClampNeg (σ.2.2.1 40 x4.toNatClampNeg)).1 62).toNatClampNeg ((mo_ai σ 63 (σ.1 62).toNatClampNeg (σ.2.2.1 40 x4.toNatClampNeg)).2.2.1 41 x4.toNatClampNeg)).1 62).toNatClampNeg ((mo_ai (mo_ai σ 63 (σ.1 62).toNatClampNeg (σ.2.2.1 40 x4.toNatClampNeg)) 64 ((mo_ai σ 63 (σ.1 62).toNatClampNeg (σ.2.2.1 40 x4.toNatClampNeg)).1 62).toNatClampNeg ((mo_ai σ 63 (σ.1 62).toNatClampNeg (σ.2.2.1 40 x4.toNatClampNeg)).2.2.1 41 x4.toNatClampNeg)).2.2.2 42 x4.toNatClampNeg)) x2 x4 0) ∧ (mbind (F_Mo_keep_115 n (mo_al (mo_ai (mo_ai σ 63 (σ.1 62).toNatClampNeg (σ.2.2.1 40 x4.toNatClampNeg)) 64 ((mo_ai σ 63 (σ.1 62).toNatClampNeg (σ.2.2.1 40 x4.toNatClampNeg)).1 62).toNatClampNeg ((mo_ai σ 63 (σ.1 62).toNatClampNeg (σ.2.2.1 40 x4.toNatClampNeg)).2.2.1 41 x4.toNatClampNeg)) 65 ((mo_ai (mo_ai σ 63 (σ.1 62).toNatClampNeg (σ.2.2.1 40 x4.toNatClampNeg)) 64 ((mo_ai σ 63 (σ.1 62).toNatClampNeg (σ.2.2.1 40 x4.toNatClampNeg)).1 62).toNatClampNeg ((mo_ai σ 63 (σ.1 62).toNatClampNeg (σ.2.2.1 40 x4.toNatClampNeg)).2.2.1 41 x4.toNatClampNeg)).1 62).toNatClampNeg ((mo_ai (mo_ai σ 63 (σ.1 62).toNatClampNeg (σ.2.2.1 40 x4.toNatClampNeg)) 64 ((mo_ai σ 63 (σ.1 62).toNatClampNeg (σ.2.2.1 40 x4.toNatClampNeg)).1 62).toNatClampNeg ((mo_ai σ 63 (σ.1 62).toNatClampNeg (σ.2.2.1 40 x4.toNatClampNeg)).2.2.1 41 x4.toNatClampNeg)).2.2.2 42 x4.toNatClampNeg)) x2 x4 0) (fun w14 => S_Mo_keep_58 n (mo_si w14.1 62 ((w14.1.1 62) + 1)) w14.2.1 (w14.2.2 + 1))))))))))
set_option maxRecDepth 100000 in
set_option maxHeartbeats 4000000 in
theorem w_Mo_keep_58 {p : Program} {l : Launch} {e : Env} {s : State} {m : MethodId} {args : Array Value} {below : List Frame} {meth : Method} {c : Code} {D : va_G} {cs : Nat → ClassId} {B : Nat} {dE : Nat × Nat} {mo : Nat} {ad : Nat → Nat} {M0 : gMem} {Q : State → Prop} (C : CallFix p m c c_Mo_keep 6 s args gT R_Mo) (hE : gEnv D gcl (gtys cs) gz B dE s) (n : Nat) (σ : mSt) (x2 : Int32) (x4 : Int32) (Fv : mSt) (hS : S_Mo_keep_58 n σ x2 x4) (hF : F_Mo_keep_58 n σ x2 x4 = Fv) (hk : GW p l e ({ frames := 0, cells := 0, slots := 0, locals := 0 } : Room) s m args below meth c 6 (gA B) Q (mo_P D B cs mo ad M0 Fv) 0 0 172 [(0, .ref mo)] []) : GW p l e ({ frames := 0, cells := 0, slots := 0, locals := 0 } : Room) s m args below meth c 6 (gA B) Q (mo_P D B cs mo ad M0 σ) 0 0 58 [(0, .ref mo), (2, .int x2), (4, .int x4)] [] := by
  induction n generalizing σ x2 x4 Fv with
  | zero => exact hS.elim
  | succ n ih =>
    unfold F_Mo_keep_58 at hF
    unfold S_Mo_keep_58 at hS
    refine g_iload C d_Mo_keep_58 rfl ?_
    refine g_iload_n C d_Mo_keep_60 rfl ?_
    refine g_icmp_ge C 172 d_Mo_keep_61 (by decide) (fun hc7 => ?_) (fun hc7 => ?_)
    · rw [if_pos hc7] at hF hS
      refine GW.subl [0] rfl ?_
      rw [← hF] at hk
      exact hk
    · rw [if_neg hc7] at hF hS
      refine g_aload_n C d_Mo_keep_64 rfl ?_
      refine m_geta C hE 63 (by decide) (by decide) (by decide) kf_Mo_126 d_Mo_keep_65 ?_
      refine g_aload_n C d_Mo_keep_68 rfl ?_
      refine m_geti C hE 62 (by decide) (by decide) kf_Mo_298 d_Mo_keep_69 ?_
      refine g_aload_n C d_Mo_keep_72 rfl ?_
      refine m_geta C hE 40 (by decide) (by decide) (by decide) kf_Mo_90 d_Mo_keep_73 ?_
      refine g_iload C d_Mo_keep_76 rfl ?_
      obtain ⟨hi8, hS⟩ := hS
      refine m_ald C hE 40 (by decide) (by decide) hi8 d_Mo_keep_78 ?_
      obtain ⟨hi9, hS⟩ := hS
      refine m_ast C hE 63 (by decide) (by decide) hi9 d_Mo_keep_79 ?_
      refine g_aload_n C d_Mo_keep_80 rfl ?_
      refine m_geta C hE 64 (by decide) (by decide) (by decide) kf_Mo_129 d_Mo_keep_81 ?_
      refine g_aload_n C d_Mo_keep_84 rfl ?_
      refine m_geti C hE 62 (by decide) (by decide) kf_Mo_298 d_Mo_keep_85 ?_
      refine g_aload_n C d_Mo_keep_88 rfl ?_
      refine m_geta C hE 41 (by decide) (by decide) (by decide) kf_Mo_93 d_Mo_keep_89 ?_
      refine g_iload C d_Mo_keep_92 rfl ?_
      obtain ⟨hi10, hS⟩ := hS
      refine m_ald C hE 41 (by decide) (by decide) hi10 d_Mo_keep_94 ?_
      obtain ⟨hi11, hS⟩ := hS
      refine m_ast C hE 64 (by decide) (by decide) hi11 d_Mo_keep_95 ?_
      refine g_aload_n C d_Mo_keep_96 rfl ?_
      refine m_geta C hE 65 (by decide) (by decide) (by decide) kf_Mo_132 d_Mo_keep_97 ?_
      refine g_aload_n C d_Mo_keep_100 rfl ?_
      refine m_geti C hE 62 (by decide) (by decide) kf_Mo_298 d_Mo_keep_101 ?_
      refine g_aload_n C d_Mo_keep_104 rfl ?_
      refine m_geta C hE 42 (by decide) (by decide) (by decide) kf_Mo_96 d_Mo_keep_105 ?_
      refine g_iload C d_Mo_keep_108 rfl ?_
      obtain ⟨hi12, hS⟩ := hS
      refine m_lald C hE 42 (by decide) (by decide) hi12 d_Mo_keep_110 ?_
      obtain ⟨hi13, hS⟩ := hS
      refine m_last C hE 65 (by decide) (by decide) hi13 d_Mo_keep_111 ?_
      refine g_iconst (v := 0) C d_Mo_keep_112 (by decide) ?_
      refine g_istore (lv' := [(5, .int 0), (0, .ref mo), (2, .int x2), (4, .int x4)]) C d_Mo_keep_113 (by decide) rfl ?_
      obtain ⟨hs15, hS⟩ := hS
      rw [mbind_eq] at hF hS
      refine GW.subl [1, 2, 3, 0] rfl ?_
      refine w_Mo_keep_115 C hE n (mo_al (mo_ai (mo_ai σ 63 (σ.1 62).toNatClampNeg (σ.2.2.1 40 x4.toNatClampNeg)) 64 ((mo_ai σ 63 (σ.1 62).toNatClampNeg (σ.2.2.1 40 x4.toNatClampNeg)).1 62).toNatClampNeg ((mo_ai σ 63 (σ.1 62).toNatClampNeg (σ.2.2.1 40 x4.toNatClampNeg)).2.2.1 41 x4.toNatClampNeg)) 65 ((mo_ai (mo_ai σ 63 (σ.1 62).toNatClampNeg (σ.2.2.1 40 x4.toNatClampNeg)) 64 ((mo_ai σ 63 (σ.1 62).toNatClampNeg (σ.2.2.1 40 x4.toNatClampNeg)).1 62).toNatClampNeg ((mo_ai σ 63 (σ.1 62).toNatClampNeg (σ.2.2.1 40 x4.toNatClampNeg)).2.2.1 41 x4.toNatClampNeg)).1 62).toNatClampNeg ((mo_ai (mo_ai σ 63 (σ.1 62).toNatClampNeg (σ.2.2.1 40 x4.toNatClampNeg)) 64 ((mo_ai σ 63 (σ.1 62).toNatClampNeg (σ.2.2.1 40 x4.toNatClampNeg)).1 62).toNatClampNeg ((mo_ai σ 63 (σ.1 62).toNatClampNeg (σ.2.2.1 40 x4.toNatClampNeg)).2.2.1 41 x4.toNatClampNeg)).2.2.2 42 x4.toNatClampNeg)) x2 x4 0 _ hs15 rfl ?_
      generalize F_Mo_keep_115 n (mo_al (mo_ai (mo_ai σ 63 (σ.1 62).toNatClampNeg (σ.2.2.1 40 x4.toNatClampNeg)) 64 ((mo_ai σ 63 (σ.1 62).toNatClampNeg (σ.2.2.1 40 x4.toNatClampNeg)).1 62).toNatClampNeg ((mo_ai σ 63 (σ.1 62).toNatClampNeg (σ.2.2.1 40 x4.toNatClampNeg)).2.2.1 41 x4.toNatClampNeg)) 65 ((mo_ai (mo_ai σ 63 (σ.1 62).toNatClampNeg (σ.2.2.1 40 x4.toNatClampNeg)) 64 ((mo_ai σ 63 (σ.1 62).toNatClampNeg (σ.2.2.1 40 x4.toNatClampNeg)).1 62).toNatClampNeg ((mo_ai σ 63 (σ.1 62).toNatClampNeg (σ.2.2.1 40 x4.toNatClampNeg)).2.2.1 41 x4.toNatClampNeg)).1 62).toNatClampNeg ((mo_ai (mo_ai σ 63 (σ.1 62).toNatClampNeg (σ.2.2.1 40 x4.toNatClampNeg)) 64 ((mo_ai σ 63 (σ.1 62).toNatClampNeg (σ.2.2.1 40 x4.toNatClampNeg)).1 62).toNatClampNeg ((mo_ai σ 63 (σ.1 62).toNatClampNeg (σ.2.2.1 40 x4.toNatClampNeg)).2.2.1 41 x4.toNatClampNeg)).2.2.2 42 x4.toNatClampNeg)) x2 x4 0 = w14 at hF hS ⊢
      refine g_aload_n C d_Mo_keep_156 rfl ?_
      refine g_dup C d_Mo_keep_157 rfl ?_
      refine m_geti C hE 62 (by decide) (by decide) kf_Mo_298 d_Mo_keep_158 ?_
      refine g_iconst (v := 1) C d_Mo_keep_161 (by decide) ?_
      refine g_iadd C d_Mo_keep_162 ?_
      refine m_puti C hE 62 (by decide) (by decide) rfl rfl kf_Mo_298 d_Mo_keep_163 ?_
      refine g_iinc (v := w14.2.2 + 1) (lv' := [(4, .int (w14.2.2 + 1)), (0, .ref mo), (2, .int w14.2.1)]) C d_Mo_keep_166 rfl rfl (by decide) rfl ?_
      refine g_goto C 58 d_Mo_keep_169 (by decide) ?_
      refine GW.subl [1, 2, 0] rfl ?_
      exact ih (mo_si w14.1 62 ((w14.1.1 62) + 1)) w14.2.1 (w14.2.2 + 1) Fv hS hF hk
def F_Mo_keep (n : Nat) (σ : mSt) (x1 : Int32) (x2 : Int32) (x3 : Int32) : mSt := mbind (F_Mo_keep_58 n (mo_si (mo_ai (mo_ai (mo_ai (mo_ai σ 57 (σ.1 61).toNatClampNeg (σ.1 62)) 58 ((mo_ai σ 57 (σ.1 61).toNatClampNeg (σ.1 62)).1 61).toNatClampNeg (x2 - x1)) 59 ((mo_ai (mo_ai σ 57 (σ.1 61).toNatClampNeg (σ.1 62)) 58 ((mo_ai σ 57 (σ.1 61).toNatClampNeg (σ.1 62)).1 61).toNatClampNeg (x2 - x1)).1 61).toNatClampNeg x3) 60 ((mo_ai (mo_ai (mo_ai σ 57 (σ.1 61).toNatClampNeg (σ.1 62)) 58 ((mo_ai σ 57 (σ.1 61).toNatClampNeg (σ.1 62)).1 61).toNatClampNeg (x2 - x1)) 59 ((mo_ai (mo_ai σ 57 (σ.1 61).toNatClampNeg (σ.1 62)) 58 ((mo_ai σ 57 (σ.1 61).toNatClampNeg (σ.1 62)).1 61).toNatClampNeg (x2 - x1)).1 61).toNatClampNeg x3).1 61).toNatClampNeg 0) 61 (((mo_ai (mo_ai (mo_ai (mo_ai σ 57 (σ.1 61).toNatClampNeg (σ.1 62)) 58 ((mo_ai σ 57 (σ.1 61).toNatClampNeg (σ.1 62)).1 61).toNatClampNeg (x2 - x1)) 59 ((mo_ai (mo_ai σ 57 (σ.1 61).toNatClampNeg (σ.1 62)) 58 ((mo_ai σ 57 (σ.1 61).toNatClampNeg (σ.1 62)).1 61).toNatClampNeg (x2 - x1)).1 61).toNatClampNeg x3) 60 ((mo_ai (mo_ai (mo_ai σ 57 (σ.1 61).toNatClampNeg (σ.1 62)) 58 ((mo_ai σ 57 (σ.1 61).toNatClampNeg (σ.1 62)).1 61).toNatClampNeg (x2 - x1)) 59 ((mo_ai (mo_ai σ 57 (σ.1 61).toNatClampNeg (σ.1 62)) 58 ((mo_ai σ 57 (σ.1 61).toNatClampNeg (σ.1 62)).1 61).toNatClampNeg (x2 - x1)).1 61).toNatClampNeg x3).1 61).toNatClampNeg 0).1 61) + 1)) x2 x1) (fun w5 => w5)
def S_Mo_keep (n : Nat) (σ : mSt) (x1 : Int32) (x2 : Int32) (x3 : Int32) : Prop := (vp_in (σ.1 61) 1000) ∧ ((vp_in ((mo_ai σ 57 (σ.1 61).toNatClampNeg (σ.1 62)).1 61) 1000) ∧ ((vp_in ((mo_ai (mo_ai σ 57 (σ.1 61).toNatClampNeg (σ.1 62)) 58 ((mo_ai σ 57 (σ.1 61).toNatClampNeg (σ.1 62)).1 61).toNatClampNeg (x2 - x1)).1 61) 1000) ∧ ((vp_in ((mo_ai (mo_ai (mo_ai σ 57 (σ.1 61).toNatClampNeg (σ.1 62)) 58 ((mo_ai σ 57 (σ.1 61).toNatClampNeg (σ.1 62)).1 61).toNatClampNeg (x2 - x1)) 59 ((mo_ai (mo_ai σ 57 (σ.1 61).toNatClampNeg (σ.1 62)) 58 ((mo_ai σ 57 (σ.1 61).toNatClampNeg (σ.1 62)).1 61).toNatClampNeg (x2 - x1)).1 61).toNatClampNeg x3).1 61) 1000) ∧ ((S_Mo_keep_58 n (mo_si (mo_ai (mo_ai (mo_ai (mo_ai σ 57 (σ.1 61).toNatClampNeg (σ.1 62)) 58 ((mo_ai σ 57 (σ.1 61).toNatClampNeg (σ.1 62)).1 61).toNatClampNeg (x2 - x1)) 59 ((mo_ai (mo_ai σ 57 (σ.1 61).toNatClampNeg (σ.1 62)) 58 ((mo_ai σ 57 (σ.1 61).toNatClampNeg (σ.1 62)).1 61).toNatClampNeg (x2 - x1)).1 61).toNatClampNeg x3) 60 ((mo_ai (mo_ai (mo_ai σ 57 (σ.1 61).toNatClampNeg (σ.1 62)) 58 ((mo_ai σ 57 (σ.1 61).toNatClampNeg (σ.1 62)).1 61).toNatClampNeg (x2 - x1)) 59 ((mo_ai (mo_ai σ 57 (σ.1 61).toNatClampNeg (σ.1 62)) 58 ((mo_ai σ 57 (σ.1 61).toNatClampNeg (σ.1 62)).1 61).toNatClampNeg (x2 - x1)).1 61).toNatClampNeg x3).1 61).toNatClampNeg 0) 61 (((mo_ai (mo_ai (mo_ai (mo_ai σ 57 (σ.1 61).toNatClampNeg (σ.1 62)) 58 ((mo_ai σ 57 (σ.1 61).toNatClampNeg (σ.1 62)).1 61).toNatClampNeg (x2 - x1)) 59 ((mo_ai (mo_ai σ 57 (σ.1 61).toNatClampNeg (σ.1 62)) 58 ((mo_ai σ 57 (σ.1 61).toNatClampNeg (σ.1 62)).1 61).toNatClampNeg (x2 - x1)).1 61).toNatClampNeg x3) 60 ((mo_ai (mo_ai (mo_ai σ 57 (σ.1 61).toNatClampNeg (σ.1 62)) 58 ((mo_ai σ 57 (σ.1 61).toNatClampNeg (σ.1 62)).1 61).toNatClampNeg (x2 - x1)) 59 ((mo_ai (mo_ai σ 57 (σ.1 61).toNatClampNeg (σ.1 62)) 58 ((mo_ai σ 57 (σ.1 61).toNatClampNeg (σ.1 62)).1 61).toNatClampNeg (x2 - x1)).1 61).toNatClampNeg x3).1 61).toNatClampNeg 0).1 61) + 1)) x2 x1) ∧ (mbind (F_Mo_keep_58 n (mo_si (mo_ai (mo_ai (mo_ai (mo_ai σ 57 (σ.1 61).toNatClampNeg (σ.1 62)) 58 ((mo_ai σ 57 (σ.1 61).toNatClampNeg (σ.1 62)).1 61).toNatClampNeg (x2 - x1)) 59 ((mo_ai (mo_ai σ 57 (σ.1 61).toNatClampNeg (σ.1 62)) 58 ((mo_ai σ 57 (σ.1 61).toNatClampNeg (σ.1 62)).1 61).toNatClampNeg (x2 - x1)).1 61).toNatClampNeg x3) 60 ((mo_ai (mo_ai (mo_ai σ 57 (σ.1 61).toNatClampNeg (σ.1 62)) 58 ((mo_ai σ 57 (σ.1 61).toNatClampNeg (σ.1 62)).1 61).toNatClampNeg (x2 - x1)) 59 ((mo_ai (mo_ai σ 57 (σ.1 61).toNatClampNeg (σ.1 62)) 58 ((mo_ai σ 57 (σ.1 61).toNatClampNeg (σ.1 62)).1 61).toNatClampNeg (x2 - x1)).1 61).toNatClampNeg x3).1 61).toNatClampNeg 0) 61 (((mo_ai (mo_ai (mo_ai (mo_ai σ 57 (σ.1 61).toNatClampNeg (σ.1 62)) 58 ((mo_ai σ 57 (σ.1 61).toNatClampNeg (σ.1 62)).1 61).toNatClampNeg (x2 - x1)) 59 ((mo_ai (mo_ai σ 57 (σ.1 61).toNatClampNeg (σ.1 62)) 58 ((mo_ai σ 57 (σ.1 61).toNatClampNeg (σ.1 62)).1 61).toNatClampNeg (x2 - x1)).1 61).toNatClampNeg x3) 60 ((mo_ai (mo_ai (mo_ai σ 57 (σ.1 61).toNatClampNeg (σ.1 62)) 58 ((mo_ai σ 57 (σ.1 61).toNatClampNeg (σ.1 62)).1 61).toNatClampNeg (x2 - x1)) 59 ((mo_ai (mo_ai σ 57 (σ.1 61).toNatClampNeg (σ.1 62)) 58 ((mo_ai σ 57 (σ.1 61).toNatClampNeg (σ.1 62)).1 61).toNatClampNeg (x2 - x1)).1 61).toNatClampNeg x3).1 61).toNatClampNeg 0).1 61) + 1)) x2 x1) (fun w5 => True))))))
set_option maxRecDepth 100000 in
set_option maxHeartbeats 4000000 in
theorem mc_Mo_keep (l : Launch) (D : va_G) (cs : Nat → ClassId) (B : Nat) (dE : Nat × Nat) (mo : Nat) (ad : Nat → Nat) (n : Nat) (σ : mSt) (x1 : Int32) (x2 : Int32) (x3 : Int32) (hS : S_Mo_keep n σ x1 x2 x3) : mMet l y_Mo_keep (Cond.code y_Mo_keep c_Mo_keep 6 none) ({ frames := 0, cells := 0, slots := 0, locals := 0 } : Room) D cs B dE mo ad [.ref mo, .int x1, .int x2, .int x3] σ (fun r σ' => r = none ∧ σ' = F_Mo_keep n σ x1 x2 x3) := by
  refine mMet.ofW (by decide) rfl (Nat.le_of_ble_eq_true rfl) (lv0 := [(0, .ref mo), (1, .int x1), (2, .int x2), (3, .int x3)]) rfl ?_
  intro p e s m args below meth c M0 C hE hr hlocks
  generalize hF : F_Mo_keep n σ x1 x2 x3 = Fv
  unfold F_Mo_keep at hF
  unfold S_Mo_keep at hS
  refine g_aload_n C d_Mo_keep_0 rfl ?_
  refine m_geta C hE 57 (by decide) (by decide) (by decide) kf_Mo_113 d_Mo_keep_1 ?_
  refine g_aload_n C d_Mo_keep_4 rfl ?_
  refine m_geti C hE 61 (by decide) (by decide) kf_Mo_295 d_Mo_keep_5 ?_
  refine g_aload_n C d_Mo_keep_8 rfl ?_
  refine m_geti C hE 62 (by decide) (by decide) kf_Mo_298 d_Mo_keep_9 ?_
  obtain ⟨hi1, hS⟩ := hS
  refine m_ast C hE 57 (by decide) (by decide) hi1 d_Mo_keep_12 ?_
  refine g_aload_n C d_Mo_keep_13 rfl ?_
  refine m_geta C hE 58 (by decide) (by decide) (by decide) kf_Mo_116 d_Mo_keep_14 ?_
  refine g_aload_n C d_Mo_keep_17 rfl ?_
  refine m_geti C hE 61 (by decide) (by decide) kf_Mo_295 d_Mo_keep_18 ?_
  refine g_iload_n C d_Mo_keep_21 rfl ?_
  refine g_iload_n C d_Mo_keep_22 rfl ?_
  refine g_isub C d_Mo_keep_23 ?_
  obtain ⟨hi2, hS⟩ := hS
  refine m_ast C hE 58 (by decide) (by decide) hi2 d_Mo_keep_24 ?_
  refine g_aload_n C d_Mo_keep_25 rfl ?_
  refine m_geta C hE 59 (by decide) (by decide) (by decide) kf_Mo_119 d_Mo_keep_26 ?_
  refine g_aload_n C d_Mo_keep_29 rfl ?_
  refine m_geti C hE 61 (by decide) (by decide) kf_Mo_295 d_Mo_keep_30 ?_
  refine g_iload_n C d_Mo_keep_33 rfl ?_
  obtain ⟨hi3, hS⟩ := hS
  refine m_ast C hE 59 (by decide) (by decide) hi3 d_Mo_keep_34 ?_
  refine g_aload_n C d_Mo_keep_35 rfl ?_
  refine m_geta C hE 60 (by decide) (by decide) (by decide) kf_Mo_122 d_Mo_keep_36 ?_
  refine g_aload_n C d_Mo_keep_39 rfl ?_
  refine m_geti C hE 61 (by decide) (by decide) kf_Mo_295 d_Mo_keep_40 ?_
  refine g_iconst (v := 0) C d_Mo_keep_43 (by decide) ?_
  obtain ⟨hi4, hS⟩ := hS
  refine m_zast C hE 60 (by decide) (by decide) (by decide) hi4 d_Mo_keep_44 ?_
  refine g_aload_n C d_Mo_keep_45 rfl ?_
  refine g_dup C d_Mo_keep_46 rfl ?_
  refine m_geti C hE 61 (by decide) (by decide) kf_Mo_295 d_Mo_keep_47 ?_
  refine g_iconst (v := 1) C d_Mo_keep_50 (by decide) ?_
  refine g_iadd C d_Mo_keep_51 ?_
  refine m_puti C hE 61 (by decide) (by decide) rfl rfl kf_Mo_295 d_Mo_keep_52 ?_
  refine g_iload_n C d_Mo_keep_55 rfl ?_
  refine g_istore (lv' := [(4, .int x1), (0, .ref mo), (1, .int x1), (2, .int x2), (3, .int x3)]) C d_Mo_keep_56 (by decide) rfl ?_
  obtain ⟨hs6, hS⟩ := hS
  rw [mbind_eq] at hF hS
  refine GW.subl [1, 3, 0] rfl ?_
  refine w_Mo_keep_58 C hE n (mo_si (mo_ai (mo_ai (mo_ai (mo_ai σ 57 (σ.1 61).toNatClampNeg (σ.1 62)) 58 ((mo_ai σ 57 (σ.1 61).toNatClampNeg (σ.1 62)).1 61).toNatClampNeg (x2 - x1)) 59 ((mo_ai (mo_ai σ 57 (σ.1 61).toNatClampNeg (σ.1 62)) 58 ((mo_ai σ 57 (σ.1 61).toNatClampNeg (σ.1 62)).1 61).toNatClampNeg (x2 - x1)).1 61).toNatClampNeg x3) 60 ((mo_ai (mo_ai (mo_ai σ 57 (σ.1 61).toNatClampNeg (σ.1 62)) 58 ((mo_ai σ 57 (σ.1 61).toNatClampNeg (σ.1 62)).1 61).toNatClampNeg (x2 - x1)) 59 ((mo_ai (mo_ai σ 57 (σ.1 61).toNatClampNeg (σ.1 62)) 58 ((mo_ai σ 57 (σ.1 61).toNatClampNeg (σ.1 62)).1 61).toNatClampNeg (x2 - x1)).1 61).toNatClampNeg x3).1 61).toNatClampNeg 0) 61 (((mo_ai (mo_ai (mo_ai (mo_ai σ 57 (σ.1 61).toNatClampNeg (σ.1 62)) 58 ((mo_ai σ 57 (σ.1 61).toNatClampNeg (σ.1 62)).1 61).toNatClampNeg (x2 - x1)) 59 ((mo_ai (mo_ai σ 57 (σ.1 61).toNatClampNeg (σ.1 62)) 58 ((mo_ai σ 57 (σ.1 61).toNatClampNeg (σ.1 62)).1 61).toNatClampNeg (x2 - x1)).1 61).toNatClampNeg x3) 60 ((mo_ai (mo_ai (mo_ai σ 57 (σ.1 61).toNatClampNeg (σ.1 62)) 58 ((mo_ai σ 57 (σ.1 61).toNatClampNeg (σ.1 62)).1 61).toNatClampNeg (x2 - x1)) 59 ((mo_ai (mo_ai σ 57 (σ.1 61).toNatClampNeg (σ.1 62)) 58 ((mo_ai σ 57 (σ.1 61).toNatClampNeg (σ.1 62)).1 61).toNatClampNeg (x2 - x1)).1 61).toNatClampNeg x3).1 61).toNatClampNeg 0).1 61) + 1)) x2 x1 _ hs6 rfl ?_
  generalize F_Mo_keep_58 n (mo_si (mo_ai (mo_ai (mo_ai (mo_ai σ 57 (σ.1 61).toNatClampNeg (σ.1 62)) 58 ((mo_ai σ 57 (σ.1 61).toNatClampNeg (σ.1 62)).1 61).toNatClampNeg (x2 - x1)) 59 ((mo_ai (mo_ai σ 57 (σ.1 61).toNatClampNeg (σ.1 62)) 58 ((mo_ai σ 57 (σ.1 61).toNatClampNeg (σ.1 62)).1 61).toNatClampNeg (x2 - x1)).1 61).toNatClampNeg x3) 60 ((mo_ai (mo_ai (mo_ai σ 57 (σ.1 61).toNatClampNeg (σ.1 62)) 58 ((mo_ai σ 57 (σ.1 61).toNatClampNeg (σ.1 62)).1 61).toNatClampNeg (x2 - x1)) 59 ((mo_ai (mo_ai σ 57 (σ.1 61).toNatClampNeg (σ.1 62)) 58 ((mo_ai σ 57 (σ.1 61).toNatClampNeg (σ.1 62)).1 61).toNatClampNeg (x2 - x1)).1 61).toNatClampNeg x3).1 61).toNatClampNeg 0) 61 (((mo_ai (mo_ai (mo_ai (mo_ai σ 57 (σ.1 61).toNatClampNeg (σ.1 62)) 58 ((mo_ai σ 57 (σ.1 61).toNatClampNeg (σ.1 62)).1 61).toNatClampNeg (x2 - x1)) 59 ((mo_ai (mo_ai σ 57 (σ.1 61).toNatClampNeg (σ.1 62)) 58 ((mo_ai σ 57 (σ.1 61).toNatClampNeg (σ.1 62)).1 61).toNatClampNeg (x2 - x1)).1 61).toNatClampNeg x3) 60 ((mo_ai (mo_ai (mo_ai σ 57 (σ.1 61).toNatClampNeg (σ.1 62)) 58 ((mo_ai σ 57 (σ.1 61).toNatClampNeg (σ.1 62)).1 61).toNatClampNeg (x2 - x1)) 59 ((mo_ai (mo_ai σ 57 (σ.1 61).toNatClampNeg (σ.1 62)) 58 ((mo_ai σ 57 (σ.1 61).toNatClampNeg (σ.1 62)).1 61).toNatClampNeg (x2 - x1)).1 61).toNatClampNeg x3).1 61).toNatClampNeg 0).1 61) + 1)) x2 x1 = w5 at hF hS ⊢
  exact m_vret C hr hlocks d_Mo_keep_172 (by rw [← hF]; exact ⟨rfl, rfl⟩)
def F_Mo_performs_12 : Nat → mSt → Int32 → Int32 → Int32 → Int32 → mSt × Int32 × Int32 × Int32 × Int32
  | 0, σ, _, _, _, _ => (σ, 0, 0, 0, 0)
  | n + 1, σ, x1, x2, x3, x4 => if x2 < 0 then ((σ, x1, x2, x3, x4)) else (if x4 = (-1) then (mbind (F_Mo_counted σ x2) (fun w5 => if w5.1 = 0 then (if (w5.2.2.2.1 40 x2.toNatClampNeg) = (-1) then (if x4 = (-1) then (F_Mo_performs_12 n w5.2 x1 (x2 + (-1)) x3 x4) else (F_Mo_performs_12 n w5.2 x1 x2 x3 x4)) else (if (w5.2.2.2.1 5 (w5.2.2.2.1 40 x2.toNatClampNeg).toNatClampNeg) = 8 then (mbind (F_Mo_clauseOf n w5.2 (w5.2.2.2.1 40 x2.toNatClampNeg) x1) (fun w16 => if w16.1 = (-1) then (F_Mo_performs_12 n w16.2 x1 (x2 + (-1)) x3 w16.1) else (F_Mo_performs_12 n w16.2 x1 x2 x3 w16.1))) else (if x4 = (-1) then (F_Mo_performs_12 n w5.2 x1 (x2 + (-1)) x3 x4) else (F_Mo_performs_12 n w5.2 x1 x2 x3 x4)))) else (if (w5.2.2.2.1 40 x2.toNatClampNeg) = (-1) then (if x4 = (-1) then (F_Mo_performs_12 n w5.2 x1 (x2 + (-1)) (x3 + 1) x4) else (F_Mo_performs_12 n w5.2 x1 x2 (x3 + 1) x4)) else (if (w5.2.2.2.1 5 (w5.2.2.2.1 40 x2.toNatClampNeg).toNatClampNeg) = 8 then (mbind (F_Mo_clauseOf n w5.2 (w5.2.2.2.1 40 x2.toNatClampNeg) x1) (fun w27 => if w27.1 = (-1) then (F_Mo_performs_12 n w27.2 x1 (x2 + (-1)) (x3 + 1) w27.1) else (F_Mo_performs_12 n w27.2 x1 x2 (x3 + 1) w27.1))) else (if x4 = (-1) then (F_Mo_performs_12 n w5.2 x1 (x2 + (-1)) (x3 + 1) x4) else (F_Mo_performs_12 n w5.2 x1 x2 (x3 + 1) x4)))))) else ((σ, x1, x2, x3, x4)))
def S_Mo_performs_12 : Nat → mSt → Int32 → Int32 → Int32 → Int32 → Prop
  | 0, _, _, _, _, _ => False
  | n + 1, σ, x1, x2, x3, x4 => if x2 < 0 then (True) else (if x4 = (-1) then ((S_Mo_counted σ x2) ∧ (mbind (F_Mo_counted σ x2) (fun w5 => if w5.1 = 0 then ((vp_in x2 17000) ∧ (if (w5.2.2.2.1 40 x2.toNatClampNeg) = (-1) then (if x4 = (-1) then (S_Mo_performs_12 n w5.2 x1 (x2 + (-1)) x3 x4) else (S_Mo_performs_12 n w5.2 x1 x2 x3 x4)) else ((vp_in x2 17000) ∧ ((vp_in (w5.2.2.2.1 40 x2.toNatClampNeg) 200) ∧ (if (w5.2.2.2.1 5 (w5.2.2.2.1 40 x2.toNatClampNeg).toNatClampNeg) = 8 then ((vp_in x2 17000) ∧ ((S_Mo_clauseOf n w5.2 (w5.2.2.2.1 40 x2.toNatClampNeg) x1) ∧ (mbind (F_Mo_clauseOf n w5.2 (w5.2.2.2.1 40 x2.toNatClampNeg) x1) (fun w16 => if w16.1 = (-1) then (S_Mo_performs_12 n w16.2 x1 (x2 + (-1)) x3 w16.1) else (S_Mo_performs_12 n w16.2 x1 x2 x3 w16.1))))) else (if x4 = (-1) then (S_Mo_performs_12 n w5.2 x1 (x2 + (-1)) x3 x4) else (S_Mo_performs_12 n w5.2 x1 x2 x3 x4))))))) else ((vp_in x2 17000) ∧ (if (w5.2.2.2.1 40 x2.toNatClampNeg) = (-1) then (if x4 = (-1) then (S_Mo_performs_12 n w5.2 x1 (x2 + (-1)) (x3 + 1) x4) else (S_Mo_performs_12 n w5.2 x1 x2 (x3 + 1) x4)) else ((vp_in x2 17000) ∧ ((vp_in (w5.2.2.2.1 40 x2.toNatClampNeg) 200) ∧ (if (w5.2.2.2.1 5 (w5.2.2.2.1 40 x2.toNatClampNeg).toNatClampNeg) = 8 then ((vp_in x2 17000) ∧ ((S_Mo_clauseOf n w5.2 (w5.2.2.2.1 40 x2.toNatClampNeg) x1) ∧ (mbind (F_Mo_clauseOf n w5.2 (w5.2.2.2.1 40 x2.toNatClampNeg) x1) (fun w27 => if w27.1 = (-1) then (S_Mo_performs_12 n w27.2 x1 (x2 + (-1)) (x3 + 1) w27.1) else (S_Mo_performs_12 n w27.2 x1 x2 (x3 + 1) w27.1))))) else (if x4 = (-1) then (S_Mo_performs_12 n w5.2 x1 (x2 + (-1)) (x3 + 1) x4) else (S_Mo_performs_12 n w5.2 x1 x2 (x3 + 1) x4)))))))))) else (True))
set_option maxRecDepth 100000 in
set_option maxHeartbeats 4000000 in
theorem w_Mo_performs_12 {p : Program} {l : Launch} {e : Env} {s : State} {m : MethodId} {args : Array Value} {below : List Frame} {meth : Method} {c : Code} {D : va_G} {cs : Nat → ClassId} {B : Nat} {dE : Nat × Nat} {mo : Nat} {ad : Nat → Nat} {M0 : gMem} {Q : State → Prop} (C : CallFix p m c c_Mo_performs 5 s args gT R_Mo) (hE : gEnv D gcl (gtys cs) gz B dE s) (n : Nat) (σ : mSt) (x1 : Int32) (x2 : Int32) (x3 : Int32) (x4 : Int32) (Fv : mSt × Int32 × Int32 × Int32 × Int32) (hS : S_Mo_performs_12 n σ x1 x2 x3 x4) (hF : F_Mo_performs_12 n σ x1 x2 x3 x4 = Fv) (hk : GW p l e ({ frames := 2, cells := 0, slots := 0, locals := 42 } : Room) s m args below meth c 5 (gA B) Q (mo_P D B cs mo ad M0 Fv.1) 0 0 84 [(0, .ref mo), (1, .int Fv.2.1), (2, .int Fv.2.2.1), (3, .int Fv.2.2.2.1), (4, .int Fv.2.2.2.2)] []) : GW p l e ({ frames := 2, cells := 0, slots := 0, locals := 42 } : Room) s m args below meth c 5 (gA B) Q (mo_P D B cs mo ad M0 σ) 0 0 12 [(0, .ref mo), (1, .int x1), (2, .int x2), (3, .int x3), (4, .int x4)] [] := by
  induction n generalizing σ x1 x2 x3 x4 Fv with
  | zero => exact hS.elim
  | succ n ih =>
    unfold F_Mo_performs_12 at hF
    unfold S_Mo_performs_12 at hS
    refine g_iload_n C d_Mo_performs_12 rfl ?_
    refine g_if_lt C 84 d_Mo_performs_13 (by decide) (fun hc3 => ?_) (fun hc3 => ?_)
    · rw [if_pos hc3] at hF hS
      refine GW.subl [0, 1, 2, 3, 4] rfl ?_
      rw [← hF] at hk
      exact hk
    · rw [if_neg hc3] at hF hS
      refine g_iload C d_Mo_performs_16 rfl ?_
      refine g_iconst (v := (-1)) C d_Mo_performs_18 (by decide) ?_
      refine g_icmp_ne C 84 d_Mo_performs_19 (by decide) (fun hc4 => ?_) (fun hc4 => ?_)
      · rw [if_neg hc4] at hF hS
        refine GW.subl [0, 1, 2, 3, 4] rfl ?_
        rw [← hF] at hk
        exact hk
      · rw [if_pos hc4] at hF hS
        refine g_aload_n C d_Mo_performs_22 rfl ?_
        refine g_iload_n C d_Mo_performs_23 rfl ?_
        obtain ⟨hs6, hS⟩ := hS
        refine m_callV (n := 1) (av := [.int x2]) (rest := []) C hE (mc_Mo_counted l D cs B dE mo ad _ _ hs6) km_Mo_317 kv_Mo_counted kl_Mo_counted kd_Mo_counted ki_Mo ⟨rfl, by decide, by decide, by decide⟩ rfl ⟨rfl, rfl⟩ (by decide) (by decide) d_Mo_performs_24 (Nat.le_of_ble_eq_true rfl) _ rfl (fun v1 σ1 hv => ?_)
        obtain ⟨rfl, rfl⟩ := hv
        rw [mbind_eq] at hF hS
        generalize F_Mo_counted σ x2 = w5 at hF hS ⊢
        refine GW.eqs (st' := [.int w5.1]) rfl ?_
        refine g_if_eq C 33 d_Mo_performs_27 (by decide) (fun hc7 => ?_) (fun hc7 => ?_)
        · rw [if_pos hc7] at hF hS
          refine g_aload_n C d_Mo_performs_33 rfl ?_
          refine m_geta C hE 40 (by decide) (by decide) (by decide) kf_Mo_90 d_Mo_performs_34 ?_
          refine g_iload_n C d_Mo_performs_37 rfl ?_
          obtain ⟨hi8, hS⟩ := hS
          refine m_ald C hE 40 (by decide) (by decide) hi8 d_Mo_performs_38 ?_
          refine g_iconst (v := (-1)) C d_Mo_performs_39 (by decide) ?_
          refine g_icmp_eq C 72 d_Mo_performs_40 (by decide) (fun hc9 => ?_) (fun hc9 => ?_)
          · rw [if_pos hc9] at hF hS
            refine g_iload C d_Mo_performs_72 rfl ?_
            refine g_iconst (v := (-1)) C d_Mo_performs_74 (by decide) ?_
            refine g_icmp_ne C 12 d_Mo_performs_75 (by decide) (fun hc10 => ?_) (fun hc10 => ?_)
            · rw [if_neg hc10] at hF hS
              refine GW.subl [0, 1, 2, 3, 4] rfl ?_
              exact ih w5.2 x1 x2 x3 x4 Fv hS hF hk
            · rw [if_pos hc10] at hF hS
              refine g_iinc (v := x2 + (-1)) (lv' := [(2, .int (x2 + (-1))), (0, .ref mo), (1, .int x1), (3, .int x3), (4, .int x4)]) C d_Mo_performs_78 rfl rfl (by decide) rfl ?_
              refine g_goto C 12 d_Mo_performs_81 (by decide) ?_
              refine GW.subl [1, 2, 0, 3, 4] rfl ?_
              exact ih w5.2 x1 (x2 + (-1)) x3 x4 Fv hS hF hk
          · rw [if_neg hc9] at hF hS
            refine g_aload_n C d_Mo_performs_43 rfl ?_
            refine m_geta C hE 5 (by decide) (by decide) (by decide) kf_Mo_7 d_Mo_performs_44 ?_
            refine g_aload_n C d_Mo_performs_47 rfl ?_
            refine m_geta C hE 40 (by decide) (by decide) (by decide) kf_Mo_90 d_Mo_performs_48 ?_
            refine g_iload_n C d_Mo_performs_51 rfl ?_
            obtain ⟨hi11, hS⟩ := hS
            refine m_ald C hE 40 (by decide) (by decide) hi11 d_Mo_performs_52 ?_
            obtain ⟨hi12, hS⟩ := hS
            refine m_ald C hE 5 (by decide) (by decide) hi12 d_Mo_performs_53 ?_
            refine g_bipush (v := 8) C d_Mo_performs_54 (by decide) ?_
            refine g_icmp_ne C 72 d_Mo_performs_56 (by decide) (fun hc13 => ?_) (fun hc13 => ?_)
            · rw [if_neg hc13] at hF hS
              refine g_iload C d_Mo_performs_72 rfl ?_
              refine g_iconst (v := (-1)) C d_Mo_performs_74 (by decide) ?_
              refine g_icmp_ne C 12 d_Mo_performs_75 (by decide) (fun hc14 => ?_) (fun hc14 => ?_)
              · rw [if_neg hc14] at hF hS
                refine GW.subl [0, 1, 2, 3, 4] rfl ?_
                exact ih w5.2 x1 x2 x3 x4 Fv hS hF hk
              · rw [if_pos hc14] at hF hS
                refine g_iinc (v := x2 + (-1)) (lv' := [(2, .int (x2 + (-1))), (0, .ref mo), (1, .int x1), (3, .int x3), (4, .int x4)]) C d_Mo_performs_78 rfl rfl (by decide) rfl ?_
                refine g_goto C 12 d_Mo_performs_81 (by decide) ?_
                refine GW.subl [1, 2, 0, 3, 4] rfl ?_
                exact ih w5.2 x1 (x2 + (-1)) x3 x4 Fv hS hF hk
            · rw [if_pos hc13] at hF hS
              refine g_aload_n C d_Mo_performs_59 rfl ?_
              refine g_aload_n C d_Mo_performs_60 rfl ?_
              refine m_geta C hE 40 (by decide) (by decide) (by decide) kf_Mo_90 d_Mo_performs_61 ?_
              refine g_iload_n C d_Mo_performs_64 rfl ?_
              obtain ⟨hi15, hS⟩ := hS
              refine m_ald C hE 40 (by decide) (by decide) hi15 d_Mo_performs_65 ?_
              refine g_iload_n C d_Mo_performs_66 rfl ?_
              obtain ⟨hs17, hS⟩ := hS
              refine m_callV (n := 2) (av := [.int (w5.2.2.2.1 40 x2.toNatClampNeg), .int x1]) (rest := []) C hE (mc_Mo_clauseOf l D cs B dE mo ad n _ _ _ hs17) km_Mo_320 kv_Mo_clauseOf kl_Mo_clauseOf kd_Mo_clauseOf ki_Mo ⟨rfl, by decide, by decide, by decide⟩ rfl ⟨rfl, rfl⟩ (by decide) (by decide) d_Mo_performs_67 (Nat.le_of_ble_eq_true rfl) _ rfl (fun v1 σ1 hv => ?_)
              obtain ⟨rfl, rfl⟩ := hv
              rw [mbind_eq] at hF hS
              generalize F_Mo_clauseOf n w5.2 (w5.2.2.2.1 40 x2.toNatClampNeg) x1 = w16 at hF hS ⊢
              refine GW.eqs (st' := [.int w16.1]) rfl ?_
              refine g_istore (lv' := [(4, .int w16.1), (0, .ref mo), (1, .int x1), (2, .int x2), (3, .int x3)]) C d_Mo_performs_70 (by decide) rfl ?_
              refine g_iload C d_Mo_performs_72 rfl ?_
              refine g_iconst (v := (-1)) C d_Mo_performs_74 (by decide) ?_
              refine g_icmp_ne C 12 d_Mo_performs_75 (by decide) (fun hc18 => ?_) (fun hc18 => ?_)
              · rw [if_neg hc18] at hF hS
                refine GW.subl [1, 2, 3, 4, 0] rfl ?_
                exact ih w16.2 x1 x2 x3 w16.1 Fv hS hF hk
              · rw [if_pos hc18] at hF hS
                refine g_iinc (v := x2 + (-1)) (lv' := [(2, .int (x2 + (-1))), (4, .int w16.1), (0, .ref mo), (1, .int x1), (3, .int x3)]) C d_Mo_performs_78 rfl rfl (by decide) rfl ?_
                refine g_goto C 12 d_Mo_performs_81 (by decide) ?_
                refine GW.subl [2, 3, 0, 4, 1] rfl ?_
                exact ih w16.2 x1 (x2 + (-1)) x3 w16.1 Fv hS hF hk
        · rw [if_neg hc7] at hF hS
          refine g_iinc (v := x3 + 1) (lv' := [(3, .int (x3 + 1)), (0, .ref mo), (1, .int x1), (2, .int x2), (4, .int x4)]) C d_Mo_performs_30 rfl rfl (by decide) rfl ?_
          refine g_aload_n C d_Mo_performs_33 rfl ?_
          refine m_geta C hE 40 (by decide) (by decide) (by decide) kf_Mo_90 d_Mo_performs_34 ?_
          refine g_iload_n C d_Mo_performs_37 rfl ?_
          obtain ⟨hi19, hS⟩ := hS
          refine m_ald C hE 40 (by decide) (by decide) hi19 d_Mo_performs_38 ?_
          refine g_iconst (v := (-1)) C d_Mo_performs_39 (by decide) ?_
          refine g_icmp_eq C 72 d_Mo_performs_40 (by decide) (fun hc20 => ?_) (fun hc20 => ?_)
          · rw [if_pos hc20] at hF hS
            refine g_iload C d_Mo_performs_72 rfl ?_
            refine g_iconst (v := (-1)) C d_Mo_performs_74 (by decide) ?_
            refine g_icmp_ne C 12 d_Mo_performs_75 (by decide) (fun hc21 => ?_) (fun hc21 => ?_)
            · rw [if_neg hc21] at hF hS
              refine GW.subl [1, 2, 3, 0, 4] rfl ?_
              exact ih w5.2 x1 x2 (x3 + 1) x4 Fv hS hF hk
            · rw [if_pos hc21] at hF hS
              refine g_iinc (v := x2 + (-1)) (lv' := [(2, .int (x2 + (-1))), (3, .int (x3 + 1)), (0, .ref mo), (1, .int x1), (4, .int x4)]) C d_Mo_performs_78 rfl rfl (by decide) rfl ?_
              refine g_goto C 12 d_Mo_performs_81 (by decide) ?_
              refine GW.subl [2, 3, 0, 1, 4] rfl ?_
              exact ih w5.2 x1 (x2 + (-1)) (x3 + 1) x4 Fv hS hF hk
          · rw [if_neg hc20] at hF hS
            refine g_aload_n C d_Mo_performs_43 rfl ?_
            refine m_geta C hE 5 (by decide) (by decide) (by decide) kf_Mo_7 d_Mo_performs_44 ?_
            refine g_aload_n C d_Mo_performs_47 rfl ?_
            refine m_geta C hE 40 (by decide) (by decide) (by decide) kf_Mo_90 d_Mo_performs_48 ?_
            refine g_iload_n C d_Mo_performs_51 rfl ?_
            obtain ⟨hi22, hS⟩ := hS
            refine m_ald C hE 40 (by decide) (by decide) hi22 d_Mo_performs_52 ?_
            obtain ⟨hi23, hS⟩ := hS
            refine m_ald C hE 5 (by decide) (by decide) hi23 d_Mo_performs_53 ?_
            refine g_bipush (v := 8) C d_Mo_performs_54 (by decide) ?_
            refine g_icmp_ne C 72 d_Mo_performs_56 (by decide) (fun hc24 => ?_) (fun hc24 => ?_)
            · rw [if_neg hc24] at hF hS
              refine g_iload C d_Mo_performs_72 rfl ?_
              refine g_iconst (v := (-1)) C d_Mo_performs_74 (by decide) ?_
              refine g_icmp_ne C 12 d_Mo_performs_75 (by decide) (fun hc25 => ?_) (fun hc25 => ?_)
              · rw [if_neg hc25] at hF hS
                refine GW.subl [1, 2, 3, 0, 4] rfl ?_
                exact ih w5.2 x1 x2 (x3 + 1) x4 Fv hS hF hk
              · rw [if_pos hc25] at hF hS
                refine g_iinc (v := x2 + (-1)) (lv' := [(2, .int (x2 + (-1))), (3, .int (x3 + 1)), (0, .ref mo), (1, .int x1), (4, .int x4)]) C d_Mo_performs_78 rfl rfl (by decide) rfl ?_
                refine g_goto C 12 d_Mo_performs_81 (by decide) ?_
                refine GW.subl [2, 3, 0, 1, 4] rfl ?_
                exact ih w5.2 x1 (x2 + (-1)) (x3 + 1) x4 Fv hS hF hk
            · rw [if_pos hc24] at hF hS
              refine g_aload_n C d_Mo_performs_59 rfl ?_
              refine g_aload_n C d_Mo_performs_60 rfl ?_
              refine m_geta C hE 40 (by decide) (by decide) (by decide) kf_Mo_90 d_Mo_performs_61 ?_
              refine g_iload_n C d_Mo_performs_64 rfl ?_
              obtain ⟨hi26, hS⟩ := hS
              refine m_ald C hE 40 (by decide) (by decide) hi26 d_Mo_performs_65 ?_
              refine g_iload_n C d_Mo_performs_66 rfl ?_
              obtain ⟨hs28, hS⟩ := hS
              refine m_callV (n := 2) (av := [.int (w5.2.2.2.1 40 x2.toNatClampNeg), .int x1]) (rest := []) C hE (mc_Mo_clauseOf l D cs B dE mo ad n _ _ _ hs28) km_Mo_320 kv_Mo_clauseOf kl_Mo_clauseOf kd_Mo_clauseOf ki_Mo ⟨rfl, by decide, by decide, by decide⟩ rfl ⟨rfl, rfl⟩ (by decide) (by decide) d_Mo_performs_67 (Nat.le_of_ble_eq_true rfl) _ rfl (fun v1 σ1 hv => ?_)
              obtain ⟨rfl, rfl⟩ := hv
              rw [mbind_eq] at hF hS
              generalize F_Mo_clauseOf n w5.2 (w5.2.2.2.1 40 x2.toNatClampNeg) x1 = w27 at hF hS ⊢
              refine GW.eqs (st' := [.int w27.1]) rfl ?_
              refine g_istore (lv' := [(4, .int w27.1), (3, .int (x3 + 1)), (0, .ref mo), (1, .int x1), (2, .int x2)]) C d_Mo_performs_70 (by decide) rfl ?_
              refine g_iload C d_Mo_performs_72 rfl ?_
              refine g_iconst (v := (-1)) C d_Mo_performs_74 (by decide) ?_
              refine g_icmp_ne C 12 d_Mo_performs_75 (by decide) (fun hc29 => ?_) (fun hc29 => ?_)
              · rw [if_neg hc29] at hF hS
                refine GW.subl [2, 3, 4, 1, 0] rfl ?_
                exact ih w27.2 x1 x2 (x3 + 1) w27.1 Fv hS hF hk
              · rw [if_pos hc29] at hF hS
                refine g_iinc (v := x2 + (-1)) (lv' := [(2, .int (x2 + (-1))), (4, .int w27.1), (3, .int (x3 + 1)), (0, .ref mo), (1, .int x1)]) C d_Mo_performs_78 rfl rfl (by decide) rfl ?_
                refine g_goto C 12 d_Mo_performs_81 (by decide) ?_
                refine GW.subl [3, 4, 0, 2, 1] rfl ?_
                exact ih w27.2 x1 (x2 + (-1)) (x3 + 1) w27.1 Fv hS hF hk
def F_Mo_performs_j84 (n : Nat) (σ : mSt) (x1 : Int32) (x2 : Int32) (x3 : Int32) (x4 : Int32) : mSt := if x4 = (-1) then (mo_si (mo_si σ 46 4) 50 x1) else (if (((σ.1 48) + 1) + x3) ≤ 1000 then (mbind (F_Mo_keep n (mo_si σ 48 ((σ.1 48) + (1 + x3))) x2 (((mo_si σ 48 ((σ.1 48) + (1 + x3))).1 44) - 1) x3) (fun w32 => mbind (F_Mo_seeAgain n w32 x2) (fun w34 => mbind (F_Mo_workMarked (mo_al (mo_al (mo_si (mo_si w34 44 x2) 49 (((mo_si w34 44 x2).1 49) - (x3 - 1))) 53 ((mo_si (mo_si w34 44 x2) 49 (((mo_si w34 44 x2).1 49) - (x3 - 1))).2.2.1 17 x4.toNatClampNeg).toNatClampNeg ((mo_si (mo_si w34 44 x2) 49 (((mo_si w34 44 x2).1 49) - (x3 - 1))).2.1)) 53 ((mo_al (mo_si (mo_si w34 44 x2) 49 (((mo_si w34 44 x2).1 49) - (x3 - 1))) 53 ((mo_si (mo_si w34 44 x2) 49 (((mo_si w34 44 x2).1 49) - (x3 - 1))).2.2.1 17 x4.toNatClampNeg).toNatClampNeg ((mo_si (mo_si w34 44 x2) 49 (((mo_si w34 44 x2).1 49) - (x3 - 1))).2.1)).2.2.1 18 x4.toNatClampNeg).toNatClampNeg ((-((mo_al (mo_si (mo_si w34 44 x2) 49 (((mo_si w34 44 x2).1 49) - (x3 - 1))) 53 ((mo_si (mo_si w34 44 x2) 49 (((mo_si w34 44 x2).1 49) - (x3 - 1))).2.2.1 17 x4.toNatClampNeg).toNatClampNeg ((mo_si (mo_si w34 44 x2) 49 (((mo_si w34 44 x2).1 49) - (x3 - 1))).2.1)).1 61)).toInt64)) ((mo_al (mo_al (mo_si (mo_si w34 44 x2) 49 (((mo_si w34 44 x2).1 49) - (x3 - 1))) 53 ((mo_si (mo_si w34 44 x2) 49 (((mo_si w34 44 x2).1 49) - (x3 - 1))).2.2.1 17 x4.toNatClampNeg).toNatClampNeg ((mo_si (mo_si w34 44 x2) 49 (((mo_si w34 44 x2).1 49) - (x3 - 1))).2.1)) 53 ((mo_al (mo_si (mo_si w34 44 x2) 49 (((mo_si w34 44 x2).1 49) - (x3 - 1))) 53 ((mo_si (mo_si w34 44 x2) 49 (((mo_si w34 44 x2).1 49) - (x3 - 1))).2.2.1 17 x4.toNatClampNeg).toNatClampNeg ((mo_si (mo_si w34 44 x2) 49 (((mo_si w34 44 x2).1 49) - (x3 - 1))).2.1)).2.2.1 18 x4.toNatClampNeg).toNatClampNeg ((-((mo_al (mo_si (mo_si w34 44 x2) 49 (((mo_si w34 44 x2).1 49) - (x3 - 1))) 53 ((mo_si (mo_si w34 44 x2) 49 (((mo_si w34 44 x2).1 49) - (x3 - 1))).2.2.1 17 x4.toNatClampNeg).toNatClampNeg ((mo_si (mo_si w34 44 x2) 49 (((mo_si w34 44 x2).1 49) - (x3 - 1))).2.1)).1 61)).toInt64)).2.2.1 19 x4.toNatClampNeg)) (fun w41 => w41)))) else (mo_si σ 46 5))
def S_Mo_performs_j84 (n : Nat) (σ : mSt) (x1 : Int32) (x2 : Int32) (x3 : Int32) (x4 : Int32) : Prop := if x4 = (-1) then (True) else (if (((σ.1 48) + 1) + x3) ≤ 1000 then ((S_Mo_keep n (mo_si σ 48 ((σ.1 48) + (1 + x3))) x2 (((mo_si σ 48 ((σ.1 48) + (1 + x3))).1 44) - 1) x3) ∧ (mbind (F_Mo_keep n (mo_si σ 48 ((σ.1 48) + (1 + x3))) x2 (((mo_si σ 48 ((σ.1 48) + (1 + x3))).1 44) - 1) x3) (fun w32 => (S_Mo_seeAgain n w32 x2) ∧ (mbind (F_Mo_seeAgain n w32 x2) (fun w34 => (vp_in x4 40) ∧ ((vp_in ((mo_si (mo_si w34 44 x2) 49 (((mo_si w34 44 x2).1 49) - (x3 - 1))).2.2.1 17 x4.toNatClampNeg) 10) ∧ ((vp_in x4 40) ∧ ((vp_in ((mo_al (mo_si (mo_si w34 44 x2) 49 (((mo_si w34 44 x2).1 49) - (x3 - 1))) 53 ((mo_si (mo_si w34 44 x2) 49 (((mo_si w34 44 x2).1 49) - (x3 - 1))).2.2.1 17 x4.toNatClampNeg).toNatClampNeg ((mo_si (mo_si w34 44 x2) 49 (((mo_si w34 44 x2).1 49) - (x3 - 1))).2.1)).2.2.1 18 x4.toNatClampNeg) 10) ∧ ((vp_in x4 40) ∧ ((S_Mo_workMarked (mo_al (mo_al (mo_si (mo_si w34 44 x2) 49 (((mo_si w34 44 x2).1 49) - (x3 - 1))) 53 ((mo_si (mo_si w34 44 x2) 49 (((mo_si w34 44 x2).1 49) - (x3 - 1))).2.2.1 17 x4.toNatClampNeg).toNatClampNeg ((mo_si (mo_si w34 44 x2) 49 (((mo_si w34 44 x2).1 49) - (x3 - 1))).2.1)) 53 ((mo_al (mo_si (mo_si w34 44 x2) 49 (((mo_si w34 44 x2).1 49) - (x3 - 1))) 53 ((mo_si (mo_si w34 44 x2) 49 (((mo_si w34 44 x2).1 49) - (x3 - 1))).2.2.1 17 x4.toNatClampNeg).toNatClampNeg ((mo_si (mo_si w34 44 x2) 49 (((mo_si w34 44 x2).1 49) - (x3 - 1))).2.1)).2.2.1 18 x4.toNatClampNeg).toNatClampNeg ((-((mo_al (mo_si (mo_si w34 44 x2) 49 (((mo_si w34 44 x2).1 49) - (x3 - 1))) 53 ((mo_si (mo_si w34 44 x2) 49 (((mo_si w34 44 x2).1 49) - (x3 - 1))).2.2.1 17 x4.toNatClampNeg).toNatClampNeg ((mo_si (mo_si w34 44 x2) 49 (((mo_si w34 44 x2).1 49) - (x3 - 1))).2.1)).1 61)).toInt64)) ((mo_al (mo_al (mo_si (mo_si w34 44 x2) 49 (((mo_si w34 44 x2).1 49) - (x3 - 1))) 53 ((mo_si (mo_si w34 44 x2) 49 (((mo_si w34 44 x2).1 49) - (x3 - 1))).2.2.1 17 x4.toNatClampNeg).toNatClampNeg ((mo_si (mo_si w34 44 x2) 49 (((mo_si w34 44 x2).1 49) - (x3 - 1))).2.1)) 53 ((mo_al (mo_si (mo_si w34 44 x2) 49 (((mo_si w34 44 x2).1 49) - (x3 - 1))) 53 ((mo_si (mo_si w34 44 x2) 49 (((mo_si w34 44 x2).1 49) - (x3 - 1))).2.2.1 17 x4.toNatClampNeg).toNatClampNeg ((mo_si (mo_si w34 44 x2) 49 (((mo_si w34 44 x2).1 49) - (x3 - 1))).2.1)).2.2.1 18 x4.toNatClampNeg).toNatClampNeg ((-((mo_al (mo_si (mo_si w34 44 x2) 49 (((mo_si w34 44 x2).1 49) - (x3 - 1))) 53 ((mo_si (mo_si w34 44 x2) 49 (((mo_si w34 44 x2).1 49) - (x3 - 1))).2.2.1 17 x4.toNatClampNeg).toNatClampNeg ((mo_si (mo_si w34 44 x2) 49 (((mo_si w34 44 x2).1 49) - (x3 - 1))).2.1)).1 61)).toInt64)).2.2.1 19 x4.toNatClampNeg)) ∧ (mbind (F_Mo_workMarked (mo_al (mo_al (mo_si (mo_si w34 44 x2) 49 (((mo_si w34 44 x2).1 49) - (x3 - 1))) 53 ((mo_si (mo_si w34 44 x2) 49 (((mo_si w34 44 x2).1 49) - (x3 - 1))).2.2.1 17 x4.toNatClampNeg).toNatClampNeg ((mo_si (mo_si w34 44 x2) 49 (((mo_si w34 44 x2).1 49) - (x3 - 1))).2.1)) 53 ((mo_al (mo_si (mo_si w34 44 x2) 49 (((mo_si w34 44 x2).1 49) - (x3 - 1))) 53 ((mo_si (mo_si w34 44 x2) 49 (((mo_si w34 44 x2).1 49) - (x3 - 1))).2.2.1 17 x4.toNatClampNeg).toNatClampNeg ((mo_si (mo_si w34 44 x2) 49 (((mo_si w34 44 x2).1 49) - (x3 - 1))).2.1)).2.2.1 18 x4.toNatClampNeg).toNatClampNeg ((-((mo_al (mo_si (mo_si w34 44 x2) 49 (((mo_si w34 44 x2).1 49) - (x3 - 1))) 53 ((mo_si (mo_si w34 44 x2) 49 (((mo_si w34 44 x2).1 49) - (x3 - 1))).2.2.1 17 x4.toNatClampNeg).toNatClampNeg ((mo_si (mo_si w34 44 x2) 49 (((mo_si w34 44 x2).1 49) - (x3 - 1))).2.1)).1 61)).toInt64)) ((mo_al (mo_al (mo_si (mo_si w34 44 x2) 49 (((mo_si w34 44 x2).1 49) - (x3 - 1))) 53 ((mo_si (mo_si w34 44 x2) 49 (((mo_si w34 44 x2).1 49) - (x3 - 1))).2.2.1 17 x4.toNatClampNeg).toNatClampNeg ((mo_si (mo_si w34 44 x2) 49 (((mo_si w34 44 x2).1 49) - (x3 - 1))).2.1)) 53 ((mo_al (mo_si (mo_si w34 44 x2) 49 (((mo_si w34 44 x2).1 49) - (x3 - 1))) 53 ((mo_si (mo_si w34 44 x2) 49 (((mo_si w34 44 x2).1 49) - (x3 - 1))).2.2.1 17 x4.toNatClampNeg).toNatClampNeg ((mo_si (mo_si w34 44 x2) 49 (((mo_si w34 44 x2).1 49) - (x3 - 1))).2.1)).2.2.1 18 x4.toNatClampNeg).toNatClampNeg ((-((mo_al (mo_si (mo_si w34 44 x2) 49 (((mo_si w34 44 x2).1 49) - (x3 - 1))) 53 ((mo_si (mo_si w34 44 x2) 49 (((mo_si w34 44 x2).1 49) - (x3 - 1))).2.2.1 17 x4.toNatClampNeg).toNatClampNeg ((mo_si (mo_si w34 44 x2) 49 (((mo_si w34 44 x2).1 49) - (x3 - 1))).2.1)).1 61)).toInt64)).2.2.1 19 x4.toNatClampNeg)) (fun w41 => True)))))))))))) else (True))
set_option maxRecDepth 100000 in
set_option maxHeartbeats 4000000 in
theorem w_Mo_performs_j84 {p : Program} {l : Launch} {e : Env} {s : State} {m : MethodId} {args : Array Value} {below : List Frame} {meth : Method} {c : Code} {D : va_G} {cs : Nat → ClassId} {B : Nat} {dE : Nat × Nat} {mo : Nat} {ad : Nat → Nat} {M0 : gMem} (C : CallFix p m c c_Mo_performs 5 s args gT R_Mo) (hE : gEnv D gcl (gtys cs) gz B dE s) (hr : meth.sig.returnType = none) (hlocks : meth.locks = false) (n : Nat) (σ : mSt) (x1 : Int32) (x2 : Int32) (x3 : Int32) (x4 : Int32) (Fv : mSt) (hS : S_Mo_performs_j84 n σ x1 x2 x3 x4) (hF : F_Mo_performs_j84 n σ x1 x2 x3 x4 = Fv) : GW p l e ({ frames := 2, cells := 0, slots := 0, locals := 42 } : Room) s m args below meth c 5 (gA B) (mQ below D cs B mo ad M0 (fun r σ' => r = none ∧ σ' = Fv) args s) (mo_P D B cs mo ad M0 σ) 0 0 84 [(0, .ref mo), (1, .int x1), (2, .int x2), (3, .int x3), (4, .int x4)] [] := by
  unfold F_Mo_performs_j84 at hF
  unfold S_Mo_performs_j84 at hS
  refine g_iload C d_Mo_performs_84 rfl ?_
  refine g_iconst (v := (-1)) C d_Mo_performs_86 (by decide) ?_
  refine g_icmp_ne C 101 d_Mo_performs_87 (by decide) (fun hc30 => ?_) (fun hc30 => ?_)
  · rw [if_neg hc30] at hF hS
    refine g_aload_n C d_Mo_performs_101 rfl ?_
    refine m_geti C hE 48 (by decide) (by decide) kf_Mo_177 d_Mo_performs_102 ?_
    refine g_iconst (v := 1) C d_Mo_performs_105 (by decide) ?_
    refine g_iadd C d_Mo_performs_106 ?_
    refine g_iload_n C d_Mo_performs_107 rfl ?_
    refine g_iadd C d_Mo_performs_108 ?_
    refine g_sipush (v := 1000) C d_Mo_performs_109 (by decide) ?_
    refine g_icmp_le C 121 d_Mo_performs_112 (by decide) (fun hc31 => ?_) (fun hc31 => ?_)
    · rw [if_pos hc31] at hF hS
      refine g_aload_n C d_Mo_performs_121 rfl ?_
      refine g_dup C d_Mo_performs_122 rfl ?_
      refine m_geti C hE 48 (by decide) (by decide) kf_Mo_177 d_Mo_performs_123 ?_
      refine g_iconst (v := 1) C d_Mo_performs_126 (by decide) ?_
      refine g_iload_n C d_Mo_performs_127 rfl ?_
      refine g_iadd C d_Mo_performs_128 ?_
      refine g_iadd C d_Mo_performs_129 ?_
      refine m_puti C hE 48 (by decide) (by decide) rfl rfl kf_Mo_177 d_Mo_performs_130 ?_
      refine g_aload_n C d_Mo_performs_133 rfl ?_
      refine g_iload_n C d_Mo_performs_134 rfl ?_
      refine g_aload_n C d_Mo_performs_135 rfl ?_
      refine m_geti C hE 44 (by decide) (by decide) kf_Mo_283 d_Mo_performs_136 ?_
      refine g_iconst (v := 1) C d_Mo_performs_139 (by decide) ?_
      refine g_isub C d_Mo_performs_140 ?_
      refine g_iload_n C d_Mo_performs_141 rfl ?_
      obtain ⟨hs33, hS⟩ := hS
      refine m_callV (n := 3) (av := [.int x2, .int (((mo_si σ 48 ((σ.1 48) + (1 + x3))).1 44) - 1), .int x3]) (rest := []) C hE (mc_Mo_keep l D cs B dE mo ad n _ _ _ _ hs33) km_Mo_323 kv_Mo_keep kl_Mo_keep kd_Mo_keep ki_Mo ⟨rfl, by decide, by decide, by decide⟩ rfl ⟨rfl, rfl⟩ (by decide) (by decide) d_Mo_performs_142 (Nat.le_of_ble_eq_true rfl) _ rfl (fun v1 σ1 hv => ?_)
      obtain ⟨rfl, rfl⟩ := hv
      rw [mbind_eq] at hF hS
      generalize F_Mo_keep n (mo_si σ 48 ((σ.1 48) + (1 + x3))) x2 (((mo_si σ 48 ((σ.1 48) + (1 + x3))).1 44) - 1) x3 = w32 at hF hS ⊢
      refine GW.eqs (st' := []) rfl ?_
      refine g_aload_n C d_Mo_performs_145 rfl ?_
      refine g_iload_n C d_Mo_performs_146 rfl ?_
      obtain ⟨hs35, hS⟩ := hS
      refine m_callV (n := 1) (av := [.int x2]) (rest := []) C hE (mc_Mo_seeAgain l D cs B dE mo ad n _ _ hs35) km_Mo_326 kv_Mo_seeAgain kl_Mo_seeAgain kd_Mo_seeAgain ki_Mo ⟨rfl, by decide, by decide, by decide⟩ rfl ⟨rfl, rfl⟩ (by decide) (by decide) d_Mo_performs_147 (Nat.le_of_ble_eq_true rfl) _ rfl (fun v1 σ1 hv => ?_)
      obtain ⟨rfl, rfl⟩ := hv
      rw [mbind_eq] at hF hS
      generalize F_Mo_seeAgain n w32 x2 = w34 at hF hS ⊢
      refine GW.eqs (st' := []) rfl ?_
      refine g_aload_n C d_Mo_performs_150 rfl ?_
      refine g_iload_n C d_Mo_performs_151 rfl ?_
      refine m_puti C hE 44 (by decide) (by decide) rfl rfl kf_Mo_283 d_Mo_performs_152 ?_
      refine g_aload_n C d_Mo_performs_155 rfl ?_
      refine g_dup C d_Mo_performs_156 rfl ?_
      refine m_geti C hE 49 (by decide) (by decide) kf_Mo_180 d_Mo_performs_157 ?_
      refine g_iload_n C d_Mo_performs_160 rfl ?_
      refine g_iconst (v := 1) C d_Mo_performs_161 (by decide) ?_
      refine g_isub C d_Mo_performs_162 ?_
      refine g_isub C d_Mo_performs_163 ?_
      refine m_puti C hE 49 (by decide) (by decide) rfl rfl kf_Mo_180 d_Mo_performs_164 ?_
      refine g_aload_n C d_Mo_performs_167 rfl ?_
      refine m_geta C hE 53 (by decide) (by decide) (by decide) kf_Mo_104 d_Mo_performs_168 ?_
      refine g_aload_n C d_Mo_performs_171 rfl ?_
      refine m_geta C hE 17 (by decide) (by decide) (by decide) kf_Mo_46 d_Mo_performs_172 ?_
      refine g_iload C d_Mo_performs_175 rfl ?_
      obtain ⟨hi36, hS⟩ := hS
      refine m_ald C hE 17 (by decide) (by decide) hi36 d_Mo_performs_177 ?_
      refine g_aload_n C d_Mo_performs_178 rfl ?_
      refine m_getl C hE kf_Mo_186 d_Mo_performs_179 ?_
      obtain ⟨hi37, hS⟩ := hS
      refine m_last C hE 53 (by decide) (by decide) hi37 d_Mo_performs_182 ?_
      refine g_aload_n C d_Mo_performs_183 rfl ?_
      refine m_geta C hE 53 (by decide) (by decide) (by decide) kf_Mo_104 d_Mo_performs_184 ?_
      refine g_aload_n C d_Mo_performs_187 rfl ?_
      refine m_geta C hE 18 (by decide) (by decide) (by decide) kf_Mo_49 d_Mo_performs_188 ?_
      refine g_iload C d_Mo_performs_191 rfl ?_
      obtain ⟨hi38, hS⟩ := hS
      refine m_ald C hE 18 (by decide) (by decide) hi38 d_Mo_performs_193 ?_
      refine g_aload_n C d_Mo_performs_194 rfl ?_
      refine m_geti C hE 61 (by decide) (by decide) kf_Mo_295 d_Mo_performs_195 ?_
      refine g_ineg C d_Mo_performs_198 ?_
      refine g_i2l C d_Mo_performs_199 rfl ?_
      obtain ⟨hi39, hS⟩ := hS
      refine m_last C hE 53 (by decide) (by decide) hi39 d_Mo_performs_200 ?_
      refine g_aload_n C d_Mo_performs_201 rfl ?_
      refine g_aload_n C d_Mo_performs_202 rfl ?_
      refine m_geta C hE 19 (by decide) (by decide) (by decide) kf_Mo_52 d_Mo_performs_203 ?_
      refine g_iload C d_Mo_performs_206 rfl ?_
      obtain ⟨hi40, hS⟩ := hS
      refine m_ald C hE 19 (by decide) (by decide) hi40 d_Mo_performs_208 ?_
      obtain ⟨hs42, hS⟩ := hS
      refine m_callV (n := 1) (av := [.int ((mo_al (mo_al (mo_si (mo_si w34 44 x2) 49 (((mo_si w34 44 x2).1 49) - (x3 - 1))) 53 ((mo_si (mo_si w34 44 x2) 49 (((mo_si w34 44 x2).1 49) - (x3 - 1))).2.2.1 17 x4.toNatClampNeg).toNatClampNeg ((mo_si (mo_si w34 44 x2) 49 (((mo_si w34 44 x2).1 49) - (x3 - 1))).2.1)) 53 ((mo_al (mo_si (mo_si w34 44 x2) 49 (((mo_si w34 44 x2).1 49) - (x3 - 1))) 53 ((mo_si (mo_si w34 44 x2) 49 (((mo_si w34 44 x2).1 49) - (x3 - 1))).2.2.1 17 x4.toNatClampNeg).toNatClampNeg ((mo_si (mo_si w34 44 x2) 49 (((mo_si w34 44 x2).1 49) - (x3 - 1))).2.1)).2.2.1 18 x4.toNatClampNeg).toNatClampNeg ((-((mo_al (mo_si (mo_si w34 44 x2) 49 (((mo_si w34 44 x2).1 49) - (x3 - 1))) 53 ((mo_si (mo_si w34 44 x2) 49 (((mo_si w34 44 x2).1 49) - (x3 - 1))).2.2.1 17 x4.toNatClampNeg).toNatClampNeg ((mo_si (mo_si w34 44 x2) 49 (((mo_si w34 44 x2).1 49) - (x3 - 1))).2.1)).1 61)).toInt64)).2.2.1 19 x4.toNatClampNeg)]) (rest := []) C hE (mc_Mo_workMarked l D cs B dE mo ad _ _ hs42) km_Mo_314 kv_Mo_workMarked kl_Mo_workMarked kd_Mo_workMarked ki_Mo ⟨rfl, by decide, by decide, by decide⟩ rfl ⟨rfl, rfl⟩ (by decide) (by decide) d_Mo_performs_209 (Nat.le_of_ble_eq_true rfl) _ rfl (fun v1 σ1 hv => ?_)
      obtain ⟨rfl, rfl⟩ := hv
      rw [mbind_eq] at hF hS
      generalize F_Mo_workMarked (mo_al (mo_al (mo_si (mo_si w34 44 x2) 49 (((mo_si w34 44 x2).1 49) - (x3 - 1))) 53 ((mo_si (mo_si w34 44 x2) 49 (((mo_si w34 44 x2).1 49) - (x3 - 1))).2.2.1 17 x4.toNatClampNeg).toNatClampNeg ((mo_si (mo_si w34 44 x2) 49 (((mo_si w34 44 x2).1 49) - (x3 - 1))).2.1)) 53 ((mo_al (mo_si (mo_si w34 44 x2) 49 (((mo_si w34 44 x2).1 49) - (x3 - 1))) 53 ((mo_si (mo_si w34 44 x2) 49 (((mo_si w34 44 x2).1 49) - (x3 - 1))).2.2.1 17 x4.toNatClampNeg).toNatClampNeg ((mo_si (mo_si w34 44 x2) 49 (((mo_si w34 44 x2).1 49) - (x3 - 1))).2.1)).2.2.1 18 x4.toNatClampNeg).toNatClampNeg ((-((mo_al (mo_si (mo_si w34 44 x2) 49 (((mo_si w34 44 x2).1 49) - (x3 - 1))) 53 ((mo_si (mo_si w34 44 x2) 49 (((mo_si w34 44 x2).1 49) - (x3 - 1))).2.2.1 17 x4.toNatClampNeg).toNatClampNeg ((mo_si (mo_si w34 44 x2) 49 (((mo_si w34 44 x2).1 49) - (x3 - 1))).2.1)).1 61)).toInt64)) ((mo_al (mo_al (mo_si (mo_si w34 44 x2) 49 (((mo_si w34 44 x2).1 49) - (x3 - 1))) 53 ((mo_si (mo_si w34 44 x2) 49 (((mo_si w34 44 x2).1 49) - (x3 - 1))).2.2.1 17 x4.toNatClampNeg).toNatClampNeg ((mo_si (mo_si w34 44 x2) 49 (((mo_si w34 44 x2).1 49) - (x3 - 1))).2.1)) 53 ((mo_al (mo_si (mo_si w34 44 x2) 49 (((mo_si w34 44 x2).1 49) - (x3 - 1))) 53 ((mo_si (mo_si w34 44 x2) 49 (((mo_si w34 44 x2).1 49) - (x3 - 1))).2.2.1 17 x4.toNatClampNeg).toNatClampNeg ((mo_si (mo_si w34 44 x2) 49 (((mo_si w34 44 x2).1 49) - (x3 - 1))).2.1)).2.2.1 18 x4.toNatClampNeg).toNatClampNeg ((-((mo_al (mo_si (mo_si w34 44 x2) 49 (((mo_si w34 44 x2).1 49) - (x3 - 1))) 53 ((mo_si (mo_si w34 44 x2) 49 (((mo_si w34 44 x2).1 49) - (x3 - 1))).2.2.1 17 x4.toNatClampNeg).toNatClampNeg ((mo_si (mo_si w34 44 x2) 49 (((mo_si w34 44 x2).1 49) - (x3 - 1))).2.1)).1 61)).toInt64)).2.2.1 19 x4.toNatClampNeg) = w41 at hF hS ⊢
      refine GW.eqs (st' := []) rfl ?_
      exact m_vret C hr hlocks d_Mo_performs_212 (by rw [← hF]; exact ⟨rfl, rfl⟩)
    · rw [if_neg hc31] at hF hS
      refine g_aload_n C d_Mo_performs_115 rfl ?_
      refine g_iconst (v := 5) C d_Mo_performs_116 (by decide) ?_
      refine m_puti C hE 46 (by decide) (by decide) rfl rfl kf_Mo_161 d_Mo_performs_117 ?_
      exact m_vret C hr hlocks d_Mo_performs_120 (by rw [← hF]; exact ⟨rfl, rfl⟩)
  · rw [if_pos hc30] at hF hS
    refine g_aload_n C d_Mo_performs_90 rfl ?_
    refine g_iconst (v := 4) C d_Mo_performs_91 (by decide) ?_
    refine m_puti C hE 46 (by decide) (by decide) rfl rfl kf_Mo_161 d_Mo_performs_92 ?_
    refine g_aload_n C d_Mo_performs_95 rfl ?_
    refine g_iload_n C d_Mo_performs_96 rfl ?_
    refine m_puti C hE 50 (by decide) (by decide) rfl rfl kf_Mo_183 d_Mo_performs_97 ?_
    exact m_vret C hr hlocks d_Mo_performs_100 (by rw [← hF]; exact ⟨rfl, rfl⟩)
def F_Mo_performs (n : Nat) (σ : mSt) (x1 : Int32) : mSt := mbind (F_Mo_performs_12 n σ x1 ((σ.1 44) - 2) 0 (-1)) (fun w1 => F_Mo_performs_j84 n w1.1 w1.2.1 w1.2.2.1 w1.2.2.2.1 w1.2.2.2.2)
def S_Mo_performs (n : Nat) (σ : mSt) (x1 : Int32) : Prop := (S_Mo_performs_12 n σ x1 ((σ.1 44) - 2) 0 (-1)) ∧ (mbind (F_Mo_performs_12 n σ x1 ((σ.1 44) - 2) 0 (-1)) (fun w1 => S_Mo_performs_j84 n w1.1 w1.2.1 w1.2.2.1 w1.2.2.2.1 w1.2.2.2.2))
set_option maxRecDepth 100000 in
set_option maxHeartbeats 4000000 in
theorem mc_Mo_performs (l : Launch) (D : va_G) (cs : Nat → ClassId) (B : Nat) (dE : Nat × Nat) (mo : Nat) (ad : Nat → Nat) (n : Nat) (σ : mSt) (x1 : Int32) (hS : S_Mo_performs n σ x1) : mMet l y_Mo_performs (Cond.code y_Mo_performs c_Mo_performs 5 none) ({ frames := 2, cells := 0, slots := 0, locals := 42 } : Room) D cs B dE mo ad [.ref mo, .int x1] σ (fun r σ' => r = none ∧ σ' = F_Mo_performs n σ x1) := by
  refine mMet.ofW (by decide) rfl (Nat.le_of_ble_eq_true rfl) (lv0 := [(0, .ref mo), (1, .int x1)]) rfl ?_
  intro p e s m args below meth c M0 C hE hr hlocks
  generalize hF : F_Mo_performs n σ x1 = Fv
  unfold F_Mo_performs at hF
  unfold S_Mo_performs at hS
  refine g_aload_n C d_Mo_performs_0 rfl ?_
  refine m_geti C hE 44 (by decide) (by decide) kf_Mo_283 d_Mo_performs_1 ?_
  refine g_iconst (v := 2) C d_Mo_performs_4 (by decide) ?_
  refine g_isub C d_Mo_performs_5 ?_
  refine g_istore_n (lv' := [(2, .int ((σ.1 44) - 2)), (0, .ref mo), (1, .int x1)]) C d_Mo_performs_6 (by decide) rfl ?_
  refine g_iconst (v := 0) C d_Mo_performs_7 (by decide) ?_
  refine g_istore_n (lv' := [(3, .int 0), (2, .int ((σ.1 44) - 2)), (0, .ref mo), (1, .int x1)]) C d_Mo_performs_8 (by decide) rfl ?_
  refine g_iconst (v := (-1)) C d_Mo_performs_9 (by decide) ?_
  refine g_istore (lv' := [(4, .int (-1)), (3, .int 0), (2, .int ((σ.1 44) - 2)), (0, .ref mo), (1, .int x1)]) C d_Mo_performs_10 (by decide) rfl ?_
  obtain ⟨hs2, hS⟩ := hS
  rw [mbind_eq] at hF hS
  refine GW.subl [3, 4, 2, 1, 0] rfl ?_
  refine w_Mo_performs_12 C hE n σ x1 ((σ.1 44) - 2) 0 (-1) _ hs2 rfl ?_
  generalize F_Mo_performs_12 n σ x1 ((σ.1 44) - 2) 0 (-1) = w1 at hF hS ⊢
  refine GW.subl [0, 1, 2, 3, 4] rfl ?_
  exact w_Mo_performs_j84 C hE hr hlocks n w1.1 w1.2.1 w1.2.2.1 w1.2.2.2.1 w1.2.2.2.2 Fv hS hF
