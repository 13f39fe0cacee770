/-! the reference's methods as functions over its state: by program (wip/tools/decomp.py) -/
def F_Mo_thrown (σ : mSt) : Int32 × mSt := (σ.1 4, σ)
def S_Mo_thrown (σ : mSt) : Prop := True
set_option maxRecDepth 100000 in
set_option maxHeartbeats 4000000 in
theorem mc_Mo_thrown (l : Launch) (D : va_G) (cs : Nat → ClassId) (B dE mo : Nat) (ad : Nat → Nat) (σ : mSt) (hS : S_Mo_thrown σ) : mMet l y_Mo_thrown (Cond.code y_Mo_thrown c_Mo_thrown 1 (some .int)) ({ frames := 0, cells := 0, slots := 0, locals := 0 } : Room) D cs B dE mo ad [.ref mo] σ (fun r σ' => r = some (.int (F_Mo_thrown σ).1) ∧ σ' = (F_Mo_thrown σ).2) := by
  refine mMet.ofW (by decide) rfl (Nat.le_of_ble_eq_true rfl) (lv0 := [(0, .ref mo)]) rfl ?_
  intro p e s m args below meth c M0 C hE hr hlocks
  generalize hF : F_Mo_thrown σ = Fv
  unfold F_Mo_thrown at hF
  unfold S_Mo_thrown at hS
  refine g_aload_n C d_Mo_thrown_0 rfl ?_
  refine m_geti C hE 4 (by decide) (by decide) kf_Mo_142 d_Mo_thrown_1 ?_
  exact m_iret C hr hlocks d_Mo_thrown_4 (by rw [← hF]; exact ⟨rfl, rfl⟩)
def F_Mo_isType (σ : mSt) (x1 : Int32) : Int32 × mSt := if x1 < 0 then ((0, σ)) else (if (σ.1 3) ≤ x1 then ((0, σ)) else ((1, σ)))
def S_Mo_isType (σ : mSt) (x1 : Int32) : Prop := if x1 < 0 then (True) else (if (σ.1 3) ≤ x1 then (True) else (True))
set_option maxRecDepth 100000 in
set_option maxHeartbeats 4000000 in
theorem mc_Mo_isType (l : Launch) (D : va_G) (cs : Nat → ClassId) (B dE mo : Nat) (ad : Nat → Nat) (σ : mSt) (x1 : Int32) (hS : S_Mo_isType σ x1) : mMet l y_Mo_isType (Cond.code y_Mo_isType c_Mo_isType 2 (some .boolean)) ({ frames := 0, cells := 0, slots := 0, locals := 0 } : Room) D cs B dE mo ad [.ref mo, .int x1] σ (fun r σ' => r = some (.int (F_Mo_isType σ x1).1) ∧ σ' = (F_Mo_isType σ x1).2) := by
  refine mMet.ofW (by decide) rfl (Nat.le_of_ble_eq_true rfl) (lv0 := [(0, .ref mo), (1, .int x1)]) rfl ?_
  intro p e s m args below meth c M0 C hE hr hlocks
  generalize hF : F_Mo_isType σ x1 = Fv
  unfold F_Mo_isType at hF
  unfold S_Mo_isType at hS
  refine g_iload_n C d_Mo_isType_0 rfl ?_
  refine g_if_lt C 16 d_Mo_isType_1 (by decide) (fun hc1 => ?_) (fun hc1 => ?_)
  · rw [if_pos hc1] at hF hS
    refine g_iconst (v := 0) C d_Mo_isType_16 (by decide) ?_
    exact m_zret C hr hlocks (by decide) d_Mo_isType_17 (by rw [← hF]; exact ⟨rfl, rfl⟩)
  · rw [if_neg hc1] at hF hS
    refine g_iload_n C d_Mo_isType_4 rfl ?_
    refine g_aload_n C d_Mo_isType_5 rfl ?_
    refine m_geti C hE 3 (by decide) (by decide) kf_Mo_155 d_Mo_isType_6 ?_
    refine g_icmp_ge C 16 d_Mo_isType_9 (by decide) (fun hc2 => ?_) (fun hc2 => ?_)
    · rw [if_pos hc2] at hF hS
      refine g_iconst (v := 0) C d_Mo_isType_16 (by decide) ?_
      exact m_zret C hr hlocks (by decide) d_Mo_isType_17 (by rw [← hF]; exact ⟨rfl, rfl⟩)
    · rw [if_neg hc2] at hF hS
      refine g_iconst (v := 1) C d_Mo_isType_12 (by decide) ?_
      refine g_goto C 17 d_Mo_isType_13 (by decide) ?_
      exact m_zret C hr hlocks (by decide) d_Mo_isType_17 (by rw [← hF]; exact ⟨rfl, rfl⟩)
def F_Mo_looksFit (σ : mSt) (x1 : Int32) (x2 : Int32) : Int32 × mSt := if x1 = x2 then ((1, σ)) else (if x1 < 3 then ((0, σ)) else (if 3 ≤ x2 then (if (σ.2.2.1 23 ((520 * (σ.2.2.1 20 x2.toNatClampNeg)) + (σ.2.2.1 20 x1.toNatClampNeg)).toNatClampNeg) = 0 then ((0, σ)) else (if (σ.2.2.1 23 ((520 * (σ.2.2.1 21 x1.toNatClampNeg)) + (σ.2.2.1 21 x2.toNatClampNeg)).toNatClampNeg) = 0 then ((0, σ)) else (if ((σ.2.2.1 22 x1.toNatClampNeg) &&& ((σ.2.2.1 22 x2.toNatClampNeg) ^^^ (-1))) = 0 then ((1, σ)) else ((0, σ))))) else ((0, σ))))
def S_Mo_looksFit (σ : mSt) (x1 : Int32) (x2 : Int32) : Prop := if x1 = x2 then (True) else (if x1 < 3 then (True) else (if 3 ≤ x2 then ((vp_in x2 520) ∧ ((vp_in x1 520) ∧ ((vp_in ((520 * (σ.2.2.1 20 x2.toNatClampNeg)) + (σ.2.2.1 20 x1.toNatClampNeg)) 270400) ∧ (if (σ.2.2.1 23 ((520 * (σ.2.2.1 20 x2.toNatClampNeg)) + (σ.2.2.1 20 x1.toNatClampNeg)).toNatClampNeg) = 0 then (True) else ((vp_in x1 520) ∧ ((vp_in x2 520) ∧ ((vp_in ((520 * (σ.2.2.1 21 x1.toNatClampNeg)) + (σ.2.2.1 21 x2.toNatClampNeg)) 270400) ∧ (if (σ.2.2.1 23 ((520 * (σ.2.2.1 21 x1.toNatClampNeg)) + (σ.2.2.1 21 x2.toNatClampNeg)).toNatClampNeg) = 0 then (True) else ((vp_in x1 520) ∧ ((vp_in x2 520) ∧ (if ((σ.2.2.1 22 x1.toNatClampNeg) &&& ((σ.2.2.1 22 x2.toNatClampNeg) ^^^ (-1))) = 0 then (True) else (True)))))))))))) else (True)))
set_option maxRecDepth 100000 in
set_option maxHeartbeats 4000000 in
theorem mc_Mo_looksFit (l : Launch) (D : va_G) (cs : Nat → ClassId) (B dE mo : Nat) (ad : Nat → Nat) (σ : mSt) (x1 : Int32) (x2 : Int32) (hS : S_Mo_looksFit σ x1 x2) : mMet l y_Mo_looksFit (Cond.code y_Mo_looksFit c_Mo_looksFit 3 (some .boolean)) ({ frames := 0, cells := 0, slots := 0, locals := 0 } : Room) D cs B dE mo ad [.ref mo, .int x1, .int x2] σ (fun r σ' => r = some (.int (F_Mo_looksFit σ x1 x2).1) ∧ σ' = (F_Mo_looksFit σ x1 x2).2) := by
  refine mMet.ofW (by decide) rfl (Nat.le_of_ble_eq_true rfl) (lv0 := [(0, .ref mo), (1, .int x1), (2, .int x2)]) rfl ?_
  intro p e s m args below meth c M0 C hE hr hlocks
  generalize hF : F_Mo_looksFit σ x1 x2 = Fv
  unfold F_Mo_looksFit at hF
  unfold S_Mo_looksFit at hS
  refine g_iload_n C d_Mo_looksFit_0 rfl ?_
  refine g_iload_n C d_Mo_looksFit_1 rfl ?_
  refine g_icmp_ne C 7 d_Mo_looksFit_2 (by decide) (fun hc1 => ?_) (fun hc1 => ?_)
  · rw [if_neg hc1] at hF hS
    refine g_iload_n C d_Mo_looksFit_7 rfl ?_
    refine g_iconst (v := 3) C d_Mo_looksFit_8 (by decide) ?_
    refine g_icmp_lt C 17 d_Mo_looksFit_9 (by decide) (fun hc2 => ?_) (fun hc2 => ?_)
    · rw [if_pos hc2] at hF hS
      refine g_iconst (v := 0) C d_Mo_looksFit_17 (by decide) ?_
      exact m_zret C hr hlocks (by decide) d_Mo_looksFit_18 (by rw [← hF]; exact ⟨rfl, rfl⟩)
    · rw [if_neg hc2] at hF hS
      refine g_iload_n C d_Mo_looksFit_12 rfl ?_
      refine g_iconst (v := 3) C d_Mo_looksFit_13 (by decide) ?_
      refine g_icmp_ge C 19 d_Mo_looksFit_14 (by decide) (fun hc3 => ?_) (fun hc3 => ?_)
      · rw [if_pos hc3] at hF hS
        refine g_aload_n C d_Mo_looksFit_19 rfl ?_
        refine m_geta C hE 23 (by decide) (by decide) (by decide) kf_Mo_65 d_Mo_looksFit_20 ?_
        refine g_sipush (v := 520) C d_Mo_looksFit_23 (by decide) ?_
        refine g_aload_n C d_Mo_looksFit_26 rfl ?_
        refine m_geta C hE 20 (by decide) (by decide) (by decide) kf_Mo_55 d_Mo_looksFit_27 ?_
        refine g_iload_n C d_Mo_looksFit_30 rfl ?_
        obtain ⟨hi4, hS⟩ := hS
        refine m_ald C hE 20 (by decide) (by decide) hi4 d_Mo_looksFit_31 ?_
        refine g_imul C d_Mo_looksFit_32 ?_
        refine g_aload_n C d_Mo_looksFit_33 rfl ?_
        refine m_geta C hE 20 (by decide) (by decide) (by decide) kf_Mo_55 d_Mo_looksFit_34 ?_
        refine g_iload_n C d_Mo_looksFit_37 rfl ?_
        obtain ⟨hi5, hS⟩ := hS
        refine m_ald C hE 20 (by decide) (by decide) hi5 d_Mo_looksFit_38 ?_
        refine g_iadd C d_Mo_looksFit_39 ?_
        obtain ⟨hi6, hS⟩ := hS
        refine m_zald C hE 23 (by decide) (by decide) hi6 d_Mo_looksFit_40 ?_
        refine g_if_eq C 91 d_Mo_looksFit_41 (by decide) (fun hc7 => ?_) (fun hc7 => ?_)
        · rw [if_pos hc7] at hF hS
          refine g_iconst (v := 0) C d_Mo_looksFit_91 (by decide) ?_
          exact m_zret C hr hlocks (by decide) d_Mo_looksFit_92 (by rw [← hF]; exact ⟨rfl, rfl⟩)
        · rw [if_neg hc7] at hF hS
          refine g_aload_n C d_Mo_looksFit_44 rfl ?_
          refine m_geta C hE 23 (by decide) (by decide) (by decide) kf_Mo_65 d_Mo_looksFit_45 ?_
          refine g_sipush (v := 520) C d_Mo_looksFit_48 (by decide) ?_
          refine g_aload_n C d_Mo_looksFit_51 rfl ?_
          refine m_geta C hE 21 (by decide) (by decide) (by decide) kf_Mo_58 d_Mo_looksFit_52 ?_
          refine g_iload_n C d_Mo_looksFit_55 rfl ?_
          obtain ⟨hi8, hS⟩ := hS
          refine m_ald C hE 21 (by decide) (by decide) hi8 d_Mo_looksFit_56 ?_
          refine g_imul C d_Mo_looksFit_57 ?_
          refine g_aload_n C d_Mo_looksFit_58 rfl ?_
          refine m_geta C hE 21 (by decide) (by decide) (by decide) kf_Mo_58 d_Mo_looksFit_59 ?_
          refine g_iload_n C d_Mo_looksFit_62 rfl ?_
          obtain ⟨hi9, hS⟩ := hS
          refine m_ald C hE 21 (by decide) (by decide) hi9 d_Mo_looksFit_63 ?_
          refine g_iadd C d_Mo_looksFit_64 ?_
          obtain ⟨hi10, hS⟩ := hS
          refine m_zald C hE 23 (by decide) (by decide) hi10 d_Mo_looksFit_65 ?_
          refine g_if_eq C 91 d_Mo_looksFit_66 (by decide) (fun hc11 => ?_) (fun hc11 => ?_)
          · rw [if_pos hc11] at hF hS
            refine g_iconst (v := 0) C d_Mo_looksFit_91 (by decide) ?_
            exact m_zret C hr hlocks (by decide) d_Mo_looksFit_92 (by rw [← hF]; exact ⟨rfl, rfl⟩)
          · rw [if_neg hc11] at hF hS
            refine g_aload_n C d_Mo_looksFit_69 rfl ?_
            refine m_geta C hE 22 (by decide) (by decide) (by decide) kf_Mo_61 d_Mo_looksFit_70 ?_
            refine g_iload_n C d_Mo_looksFit_73 rfl ?_
            obtain ⟨hi12, hS⟩ := hS
            refine m_ald C hE 22 (by decide) (by decide) hi12 d_Mo_looksFit_74 ?_
            refine g_aload_n C d_Mo_looksFit_75 rfl ?_
            refine m_geta C hE 22 (by decide) (by decide) (by decide) kf_Mo_61 d_Mo_looksFit_76 ?_
            refine g_iload_n C d_Mo_looksFit_79 rfl ?_
            obtain ⟨hi13, hS⟩ := hS
            refine m_ald C hE 22 (by decide) (by decide) hi13 d_Mo_looksFit_80 ?_
            refine g_iconst (v := (-1)) C d_Mo_looksFit_81 (by decide) ?_
            refine g_ixor C d_Mo_looksFit_82 ?_
            refine g_iand C d_Mo_looksFit_83 ?_
            refine g_if_ne C 91 d_Mo_looksFit_84 (by decide) (fun hc14 => ?_) (fun hc14 => ?_)
            · rw [if_neg hc14] at hF hS
              refine g_iconst (v := 0) C d_Mo_looksFit_91 (by decide) ?_
              exact m_zret C hr hlocks (by decide) d_Mo_looksFit_92 (by rw [← hF]; exact ⟨rfl, rfl⟩)
            · rw [if_pos hc14] at hF hS
              refine g_iconst (v := 1) C d_Mo_looksFit_87 (by decide) ?_
              refine g_goto C 92 d_Mo_looksFit_88 (by decide) ?_
              exact m_zret C hr hlocks (by decide) d_Mo_looksFit_92 (by rw [← hF]; exact ⟨rfl, rfl⟩)
      · rw [if_neg hc3] at hF hS
        refine g_iconst (v := 0) C d_Mo_looksFit_17 (by decide) ?_
        exact m_zret C hr hlocks (by decide) d_Mo_looksFit_18 (by rw [← hF]; exact ⟨rfl, rfl⟩)
  · rw [if_pos hc1] at hF hS
    refine g_iconst (v := 1) C d_Mo_looksFit_5 (by decide) ?_
    exact m_zret C hr hlocks (by decide) d_Mo_looksFit_6 (by rw [← hF]; exact ⟨rfl, rfl⟩)
def F_Mo_typeOf_97 : Nat → mSt → Int32 → Int32 → Int32 × mSt
  | 0, σ, _, _ => (0, σ)
  | n + 1, σ, x4, x5 => if x4 < x5 then ((x4, σ)) else (mbind (F_Mo_looksFit σ x4 x5) (fun w2 => mbind (F_Mo_looksFit (mo_ai w2.2 23 ((520 * x4) + x5).toNatClampNeg w2.1) x5 x4) (fun w6 => F_Mo_typeOf_97 n (mo_ai w6.2 23 ((520 * x5) + x4).toNatClampNeg w6.1) x4 (x5 + 1))))
def S_Mo_typeOf_97 : Nat → mSt → Int32 → Int32 → Prop
  | 0, _, _, _ => False
  | n + 1, σ, x4, x5 => if x4 < x5 then (True) else ((S_Mo_looksFit σ x4 x5) ∧ (mbind (F_Mo_looksFit σ x4 x5) (fun w2 => (vp_in ((520 * x4) + x5) 270400) ∧ ((w2.1 = 0 ∨ w2.1 = 1) ∧ ((S_Mo_looksFit (mo_ai w2.2 23 ((520 * x4) + x5).toNatClampNeg w2.1) x5 x4) ∧ (mbind (F_Mo_looksFit (mo_ai w2.2 23 ((520 * x4) + x5).toNatClampNeg w2.1) x5 x4) (fun w6 => (vp_in ((520 * x5) + x4) 270400) ∧ ((w6.1 = 0 ∨ w6.1 = 1) ∧ (S_Mo_typeOf_97 n (mo_ai w6.2 23 ((520 * x5) + x4).toNatClampNeg w6.1) x4 (x5 + 1))))))))))
set_option maxRecDepth 100000 in
set_option maxHeartbeats 4000000 in
theorem w_Mo_typeOf_97 {p : Program} {l : Launch} {e : Env} {s : State} {m : MethodId} {args : Array Value} {below : List Frame} {meth : Method} {c : Code} {D : va_G} {cs : Nat → ClassId} {B dE mo : Nat} {ad : Nat → Nat} {M0 : gMem} (C : CallFix p m c c_Mo_typeOf 6 s args gT R_Mo) (hE : gEnv D gcl (gtys cs) gz B dE s) (hr : meth.sig.returnType = (some .int)) (hlocks : meth.locks = false) (n : Nat) (σ : mSt) (x4 : Int32) (x5 : Int32) (Fv : Int32 × mSt) (hS : S_Mo_typeOf_97 n σ x4 x5) (hF : F_Mo_typeOf_97 n σ x4 x5 = Fv) : GW p l e ({ frames := 1, cells := 0, slots := 0, locals := 22 } : Room) s m args below meth c 6 (gA B) (mQ below D cs B mo ad M0 (fun r σ' => r = some (.int Fv.1) ∧ σ' = Fv.2) args s) (mo_P D B cs mo ad M0 σ) 0 0 97 [(0, .ref mo), (4, .int x4), (5, .int x5)] [] := by
  induction n generalizing σ x4 x5 Fv with
  | zero => exact hS.elim
  | succ n ih =>
    unfold F_Mo_typeOf_97 at hF
    unfold S_Mo_typeOf_97 at hS
    refine g_iload C d_Mo_typeOf_97 rfl ?_
    refine g_iload C d_Mo_typeOf_99 rfl ?_
    refine g_icmp_gt C 154 d_Mo_typeOf_101 (by decide) (fun hc1 => ?_) (fun hc1 => ?_)
    · rw [if_pos hc1] at hF hS
      refine g_iload C d_Mo_typeOf_154 rfl ?_
      exact m_iret C hr hlocks d_Mo_typeOf_156 (by rw [← hF]; exact ⟨rfl, rfl⟩)
    · rw [if_neg hc1] at hF hS
      refine g_aload_n C d_Mo_typeOf_104 rfl ?_
      refine m_geta C hE 23 (by decide) (by decide) (by decide) kf_Mo_65 d_Mo_typeOf_105 ?_
      refine g_sipush (v := 520) C d_Mo_typeOf_108 (by decide) ?_
      refine g_iload C d_Mo_typeOf_111 rfl ?_
      refine g_imul C d_Mo_typeOf_113 ?_
      refine g_iload C d_Mo_typeOf_114 rfl ?_
      refine g_iadd C d_Mo_typeOf_116 ?_
      refine g_aload_n C d_Mo_typeOf_117 rfl ?_
      refine g_iload C d_Mo_typeOf_118 rfl ?_
      refine g_iload C d_Mo_typeOf_120 rfl ?_
      obtain ⟨hs3, hS⟩ := hS
      refine m_callV (n := 2) (av := [.int x4, .int x5]) (rest := [.int ((520 * x4) + x5), .ref (ad 23)]) C hE (mc_Mo_looksFit l D cs B dE mo ad _ _ _ hs3) km_Mo_190 kv_Mo_looksFit kl_Mo_looksFit kd_Mo_looksFit ki_Mo ⟨rfl, by decide, by decide, by decide⟩ rfl ⟨rfl, rfl⟩ (by decide) (by decide) d_Mo_typeOf_122 (Nat.le_of_ble_eq_true rfl) _ rfl (fun v1 σ1 hv => ?_)
      obtain ⟨rfl, rfl⟩ := hv
      rw [mbind_eq] at hF hS
      generalize F_Mo_looksFit σ x4 x5 = w2 at hF hS ⊢
      refine GW.eqs (st' := [.int w2.1, .int ((520 * x4) + x5), .ref (ad 23)]) rfl ?_
      obtain ⟨hi4, hS⟩ := hS
      obtain ⟨hb5, hS⟩ := hS
      refine m_zast C hE 23 (by decide) (by decide) hb5 hi4 d_Mo_typeOf_125 ?_
      refine g_aload_n C d_Mo_typeOf_126 rfl ?_
      refine m_geta C hE 23 (by decide) (by decide) (by decide) kf_Mo_65 d_Mo_typeOf_127 ?_
      refine g_sipush (v := 520) C d_Mo_typeOf_130 (by decide) ?_
      refine g_iload C d_Mo_typeOf_133 rfl ?_
      refine g_imul C d_Mo_typeOf_135 ?_
      refine g_iload C d_Mo_typeOf_136 rfl ?_
      refine g_iadd C d_Mo_typeOf_138 ?_
      refine g_aload_n C d_Mo_typeOf_139 rfl ?_
      refine g_iload C d_Mo_typeOf_140 rfl ?_
      refine g_iload C d_Mo_typeOf_142 rfl ?_
      obtain ⟨hs7, hS⟩ := hS
      refine m_callV (n := 2) (av := [.int x5, .int x4]) (rest := [.int ((520 * x5) + x4), .ref (ad 23)]) C hE (mc_Mo_looksFit l D cs B dE mo ad _ _ _ hs7) km_Mo_190 kv_Mo_looksFit kl_Mo_looksFit kd_Mo_looksFit ki_Mo ⟨rfl, by decide, by decide, by decide⟩ rfl ⟨rfl, rfl⟩ (by decide) (by decide) d_Mo_typeOf_144 (Nat.le_of_ble_eq_true rfl) _ rfl (fun v1 σ1 hv => ?_)
      obtain ⟨rfl, rfl⟩ := hv
      rw [mbind_eq] at hF hS
      generalize F_Mo_looksFit (mo_ai w2.2 23 ((520 * x4) + x5).toNatClampNeg w2.1) x5 x4 = w6 at hF hS ⊢
      refine GW.eqs (st' := [.int w6.1, .int ((520 * x5) + x4), .ref (ad 23)]) rfl ?_
      obtain ⟨hi8, hS⟩ := hS
      obtain ⟨hb9, hS⟩ := hS
      refine m_zast C hE 23 (by decide) (by decide) hb9 hi8 d_Mo_typeOf_147 ?_
      refine g_iinc (v := x5 + 1) (lv' := [(5, .int (x5 + 1)), (0, .ref mo), (4, .int x4)]) C d_Mo_typeOf_148 rfl rfl (by decide) rfl ?_
      refine g_goto C 97 d_Mo_typeOf_151 (by decide) ?_
      refine GW.subl [1, 2, 0] rfl ?_
      exact ih (mo_ai w6.2 23 ((520 * x5) + x4).toNatClampNeg w6.1) x4 (x5 + 1) Fv hS hF
def F_Mo_typeOf_3 : Nat → mSt → Int32 → Int32 → Int32 → Int32 → Int32 × mSt
  | 0, σ, _, _, _, _ => (0, σ)
  | n + 1, σ, x1, x2, x3, x4 => if (σ.1 3) ≤ x4 then (F_Mo_typeOf_97 n (mo_si (mo_ai (mo_ai (mo_ai σ 20 (σ.1 3).toNatClampNeg x1) 21 (σ.1 3).toNatClampNeg x2) 22 (σ.1 3).toNatClampNeg x3) 3 (((mo_ai (mo_ai (mo_ai σ 20 (σ.1 3).toNatClampNeg x1) 21 (σ.1 3).toNatClampNeg x2) 22 (σ.1 3).toNatClampNeg x3).1 3) + 1)) (σ.1 3) 0) else (if (σ.2.2.1 20 x4.toNatClampNeg) = x1 then (if (σ.2.2.1 21 x4.toNatClampNeg) = x2 then (if (σ.2.2.1 22 x4.toNatClampNeg) = x3 then ((x4, σ)) else (F_Mo_typeOf_3 n σ x1 x2 x3 (x4 + 1))) else (F_Mo_typeOf_3 n σ x1 x2 x3 (x4 + 1))) else (F_Mo_typeOf_3 n σ x1 x2 x3 (x4 + 1)))
def S_Mo_typeOf_3 : Nat → mSt → Int32 → Int32 → Int32 → Int32 → Prop
  | 0, _, _, _, _, _ => False
  | n + 1, σ, x1, x2, x3, x4 => if (σ.1 3) ≤ x4 then ((vp_in (σ.1 3) 520) ∧ ((vp_in (σ.1 3) 520) ∧ ((vp_in (σ.1 3) 520) ∧ (S_Mo_typeOf_97 n (mo_si (mo_ai (mo_ai (mo_ai σ 20 (σ.1 3).toNatClampNeg x1) 21 (σ.1 3).toNatClampNeg x2) 22 (σ.1 3).toNatClampNeg x3) 3 (((mo_ai (mo_ai (mo_ai σ 20 (σ.1 3).toNatClampNeg x1) 21 (σ.1 3).toNatClampNeg x2) 22 (σ.1 3).toNatClampNeg x3).1 3) + 1)) (σ.1 3) 0)))) else ((vp_in x4 520) ∧ (if (σ.2.2.1 20 x4.toNatClampNeg) = x1 then ((vp_in x4 520) ∧ (if (σ.2.2.1 21 x4.toNatClampNeg) = x2 then ((vp_in x4 520) ∧ (if (σ.2.2.1 22 x4.toNatClampNeg) = x3 then (True) else (S_Mo_typeOf_3 n σ x1 x2 x3 (x4 + 1)))) else (S_Mo_typeOf_3 n σ x1 x2 x3 (x4 + 1)))) else (S_Mo_typeOf_3 n σ x1 x2 x3 (x4 + 1))))
set_option maxRecDepth 100000 in
set_option maxHeartbeats 4000000 in
theorem w_Mo_typeOf_3 {p : Program} {l : Launch} {e : Env} {s : State} {m : MethodId} {args : Array Value} {below : List Frame} {meth : Method} {c : Code} {D : va_G} {cs : Nat → ClassId} {B dE mo : Nat} {ad : Nat → Nat} {M0 : gMem} (C : CallFix p m c c_Mo_typeOf 6 s args gT R_Mo) (hE : gEnv D gcl (gtys cs) gz B dE s) (hr : meth.sig.returnType = (some .int)) (hlocks : meth.locks = false) (n : Nat) (σ : mSt) (x1 : Int32) (x2 : Int32) (x3 : Int32) (x4 : Int32) (Fv : Int32 × mSt) (hS : S_Mo_typeOf_3 n σ x1 x2 x3 x4) (hF : F_Mo_typeOf_3 n σ x1 x2 x3 x4 = Fv) : GW p l e ({ frames := 1, cells := 0, slots := 0, locals := 22 } : Room) s m args below meth c 6 (gA B) (mQ below D cs B mo ad M0 (fun r σ' => r = some (.int Fv.1) ∧ σ' = Fv.2) args s) (mo_P D B cs mo ad M0 σ) 0 0 3 [(0, .ref mo), (1, .int x1), (2, .int x2), (3, .int x3), (4, .int x4)] [] := by
  induction n generalizing σ x1 x2 x3 x4 Fv with
  | zero => exact hS.elim
  | succ n ih =>
    unfold F_Mo_typeOf_3 at hF
    unfold S_Mo_typeOf_3 at hS
    refine g_iload C d_Mo_typeOf_3 rfl ?_
    refine g_aload_n C d_Mo_typeOf_5 rfl ?_
    refine m_geti C hE 3 (by decide) (by decide) kf_Mo_155 d_Mo_typeOf_6 ?_
    refine g_icmp_ge C 54 d_Mo_typeOf_9 (by decide) (fun hc10 => ?_) (fun hc10 => ?_)
    · rw [if_pos hc10] at hF hS
      refine g_aload_n C d_Mo_typeOf_54 rfl ?_
      refine m_geti C hE 3 (by decide) (by decide) kf_Mo_155 d_Mo_typeOf_55 ?_
      refine g_istore (lv' := [(4, .int (σ.1 3)), (0, .ref mo), (1, .int x1), (2, .int x2), (3, .int x3)]) C d_Mo_typeOf_58 (by decide) rfl ?_
      refine g_aload_n C d_Mo_typeOf_60 rfl ?_
      refine m_geta C hE 20 (by decide) (by decide) (by decide) kf_Mo_55 d_Mo_typeOf_61 ?_
      refine g_iload C d_Mo_typeOf_64 rfl ?_
      refine g_iload_n C d_Mo_typeOf_66 rfl ?_
      obtain ⟨hi11, hS⟩ := hS
      refine m_ast C hE 20 (by decide) (by decide) hi11 d_Mo_typeOf_67 ?_
      refine g_aload_n C d_Mo_typeOf_68 rfl ?_
      refine m_geta C hE 21 (by decide) (by decide) (by decide) kf_Mo_58 d_Mo_typeOf_69 ?_
      refine g_iload C d_Mo_typeOf_72 rfl ?_
      refine g_iload_n C d_Mo_typeOf_74 rfl ?_
      obtain ⟨hi12, hS⟩ := hS
      refine m_ast C hE 21 (by decide) (by decide) hi12 d_Mo_typeOf_75 ?_
      refine g_aload_n C d_Mo_typeOf_76 rfl ?_
      refine m_geta C hE 22 (by decide) (by decide) (by decide) kf_Mo_61 d_Mo_typeOf_77 ?_
      refine g_iload C d_Mo_typeOf_80 rfl ?_
      refine g_iload_n C d_Mo_typeOf_82 rfl ?_
      obtain ⟨hi13, hS⟩ := hS
      refine m_ast C hE 22 (by decide) (by decide) hi13 d_Mo_typeOf_83 ?_
      refine g_aload_n C d_Mo_typeOf_84 rfl ?_
      refine g_dup C d_Mo_typeOf_85 rfl ?_
      refine m_geti C hE 3 (by decide) (by decide) kf_Mo_155 d_Mo_typeOf_86 ?_
      refine g_iconst (v := 1) C d_Mo_typeOf_89 (by decide) ?_
      refine g_iadd C d_Mo_typeOf_90 ?_
      refine m_puti C hE 3 (by decide) (by decide) rfl rfl kf_Mo_155 d_Mo_typeOf_91 ?_
      refine g_iconst (v := 0) C d_Mo_typeOf_94 (by decide) ?_
      refine g_istore (lv' := [(5, .int 0), (4, .int (σ.1 3)), (0, .ref mo), (1, .int x1), (2, .int x2), (3, .int x3)]) C d_Mo_typeOf_95 (by decide) rfl ?_
      refine GW.subl [2, 1, 0] rfl ?_
      exact w_Mo_typeOf_97 C hE hr hlocks n (mo_si (mo_ai (mo_ai (mo_ai σ 20 (σ.1 3).toNatClampNeg x1) 21 (σ.1 3).toNatClampNeg x2) 22 (σ.1 3).toNatClampNeg x3) 3 (((mo_ai (mo_ai (mo_ai σ 20 (σ.1 3).toNatClampNeg x1) 21 (σ.1 3).toNatClampNeg x2) 22 (σ.1 3).toNatClampNeg x3).1 3) + 1)) (σ.1 3) 0 Fv hS hF
    · rw [if_neg hc10] at hF hS
      refine g_aload_n C d_Mo_typeOf_12 rfl ?_
      refine m_geta C hE 20 (by decide) (by decide) (by decide) kf_Mo_55 d_Mo_typeOf_13 ?_
      refine g_iload C d_Mo_typeOf_16 rfl ?_
      obtain ⟨hi14, hS⟩ := hS
      refine m_ald C hE 20 (by decide) (by decide) hi14 d_Mo_typeOf_18 ?_
      refine g_iload_n C d_Mo_typeOf_19 rfl ?_
      refine g_icmp_ne C 48 d_Mo_typeOf_20 (by decide) (fun hc15 => ?_) (fun hc15 => ?_)
      · rw [if_neg hc15] at hF hS
        refine g_iinc (v := x4 + 1) (lv' := [(4, .int (x4 + 1)), (0, .ref mo), (1, .int x1), (2, .int x2), (3, .int x3)]) C d_Mo_typeOf_48 rfl rfl (by decide) rfl ?_
        refine g_goto C 3 d_Mo_typeOf_51 (by decide) ?_
        refine GW.subl [1, 2, 3, 4, 0] rfl ?_
        exact ih σ x1 x2 x3 (x4 + 1) Fv hS hF
      · rw [if_pos hc15] at hF hS
        refine g_aload_n C d_Mo_typeOf_23 rfl ?_
        refine m_geta C hE 21 (by decide) (by decide) (by decide) kf_Mo_58 d_Mo_typeOf_24 ?_
        refine g_iload C d_Mo_typeOf_27 rfl ?_
        obtain ⟨hi16, hS⟩ := hS
        refine m_ald C hE 21 (by decide) (by decide) hi16 d_Mo_typeOf_29 ?_
        refine g_iload_n C d_Mo_typeOf_30 rfl ?_
        refine g_icmp_ne C 48 d_Mo_typeOf_31 (by decide) (fun hc17 => ?_) (fun hc17 => ?_)
        · rw [if_neg hc17] at hF hS
          refine g_iinc (v := x4 + 1) (lv' := [(4, .int (x4 + 1)), (0, .ref mo), (1, .int x1), (2, .int x2), (3, .int x3)]) C d_Mo_typeOf_48 rfl rfl (by decide) rfl ?_
          refine g_goto C 3 d_Mo_typeOf_51 (by decide) ?_
          refine GW.subl [1, 2, 3, 4, 0] rfl ?_
          exact ih σ x1 x2 x3 (x4 + 1) Fv hS hF
        · rw [if_pos hc17] at hF hS
          refine g_aload_n C d_Mo_typeOf_34 rfl ?_
          refine m_geta C hE 22 (by decide) (by decide) (by decide) kf_Mo_61 d_Mo_typeOf_35 ?_
          refine g_iload C d_Mo_typeOf_38 rfl ?_
          obtain ⟨hi18, hS⟩ := hS
          refine m_ald C hE 22 (by decide) (by decide) hi18 d_Mo_typeOf_40 ?_
          refine g_iload_n C d_Mo_typeOf_41 rfl ?_
          refine g_icmp_ne C 48 d_Mo_typeOf_42 (by decide) (fun hc19 => ?_) (fun hc19 => ?_)
          · rw [if_neg hc19] at hF hS
            refine g_iinc (v := x4 + 1) (lv' := [(4, .int (x4 + 1)), (0, .ref mo), (1, .int x1), (2, .int x2), (3, .int x3)]) C d_Mo_typeOf_48 rfl rfl (by decide) rfl ?_
            refine g_goto C 3 d_Mo_typeOf_51 (by decide) ?_
            refine GW.subl [1, 2, 3, 4, 0] rfl ?_
            exact ih σ x1 x2 x3 (x4 + 1) Fv hS hF
          · rw [if_pos hc19] at hF hS
            refine g_iload C d_Mo_typeOf_45 rfl ?_
            exact m_iret C hr hlocks d_Mo_typeOf_47 (by rw [← hF]; exact ⟨rfl, rfl⟩)
def F_Mo_typeOf (n : Nat) (σ : mSt) (x1 : Int32) (x2 : Int32) (x3 : Int32) : Int32 × mSt := F_Mo_typeOf_3 n σ x1 x2 x3 3
def S_Mo_typeOf (n : Nat) (σ : mSt) (x1 : Int32) (x2 : Int32) (x3 : Int32) : Prop := S_Mo_typeOf_3 n σ x1 x2 x3 3
set_option maxRecDepth 100000 in
set_option maxHeartbeats 4000000 in
theorem mc_Mo_typeOf (l : Launch) (D : va_G) (cs : Nat → ClassId) (B dE mo : Nat) (ad : Nat → Nat) (n : Nat) (σ : mSt) (x1 : Int32) (x2 : Int32) (x3 : Int32) (hS : S_Mo_typeOf n σ x1 x2 x3) : mMet l y_Mo_typeOf (Cond.code y_Mo_typeOf c_Mo_typeOf 6 (some .int)) ({ frames := 1, cells := 0, slots := 0, locals := 22 } : Room) D cs B dE mo ad [.ref mo, .int x1, .int x2, .int x3] σ (fun r σ' => r = some (.int (F_Mo_typeOf n σ x1 x2 x3).1) ∧ σ' = (F_Mo_typeOf n σ x1 x2 x3).2) := by
  refine mMet.ofW (by decide) rfl (Nat.le_of_ble_eq_true rfl) (lv0 := [(0, .ref mo), (1, .int x1), (2, .int x2), (3, .int x3)]) rfl ?_
  intro p e s m args below meth c M0 C hE hr hlocks
  generalize hF : F_Mo_typeOf n σ x1 x2 x3 = Fv
  unfold F_Mo_typeOf at hF
  unfold S_Mo_typeOf at hS
  refine g_iconst (v := 3) C d_Mo_typeOf_0 (by decide) ?_
  refine g_istore (lv' := [(4, .int 3), (0, .ref mo), (1, .int x1), (2, .int x2), (3, .int x3)]) C d_Mo_typeOf_1 (by decide) rfl ?_
  refine GW.subl [1, 2, 3, 4, 0] rfl ?_
  exact w_Mo_typeOf_3 C hE hr hlocks n σ x1 x2 x3 3 Fv hS hF
def F_Mo_function_48 : Nat → mSt → Int32 → Int32 → Int32 → Int32 → Int32 × mSt
  | 0, σ, _, _, _, _ => (0, σ)
  | n + 1, σ, x1, x2, x3, x4 => if (σ.1 3) ≤ x4 then (if (σ.1 3) = 63 then (if ((mo_si σ 4 2).1 4) = 0 then (mbind (F_Mo_typeOf n (mo_si σ 4 2) x1 x2 x3) (fun w7 => (w7.1, w7.2))) else ((0, mo_si σ 4 2))) else (if ((mo_si σ 4 0).1 4) = 0 then (mbind (F_Mo_typeOf n (mo_si σ 4 0) x1 x2 x3) (fun w4 => (w4.1, w4.2))) else ((0, mo_si σ 4 0)))) else (if (σ.2.2.1 20 x4.toNatClampNeg) = x1 then (if (σ.2.2.1 21 x4.toNatClampNeg) = x2 then (if (σ.2.2.1 22 x4.toNatClampNeg) = x3 then ((x4, σ)) else (F_Mo_function_48 n σ x1 x2 x3 (x4 + 1))) else (F_Mo_function_48 n σ x1 x2 x3 (x4 + 1))) else (F_Mo_function_48 n σ x1 x2 x3 (x4 + 1)))
def S_Mo_function_48 : Nat → mSt → Int32 → Int32 → Int32 → Int32 → Prop
  | 0, _, _, _, _, _ => False
  | n + 1, σ, x1, x2, x3, x4 => if (σ.1 3) ≤ x4 then (if (σ.1 3) = 63 then (if ((mo_si σ 4 2).1 4) = 0 then ((S_Mo_typeOf n (mo_si σ 4 2) x1 x2 x3) ∧ (mbind (F_Mo_typeOf n (mo_si σ 4 2) x1 x2 x3) (fun w7 => True))) else (True)) else (if ((mo_si σ 4 0).1 4) = 0 then ((S_Mo_typeOf n (mo_si σ 4 0) x1 x2 x3) ∧ (mbind (F_Mo_typeOf n (mo_si σ 4 0) x1 x2 x3) (fun w4 => True))) else (True))) else ((vp_in x4 520) ∧ (if (σ.2.2.1 20 x4.toNatClampNeg) = x1 then ((vp_in x4 520) ∧ (if (σ.2.2.1 21 x4.toNatClampNeg) = x2 then ((vp_in x4 520) ∧ (if (σ.2.2.1 22 x4.toNatClampNeg) = x3 then (True) else (S_Mo_function_48 n σ x1 x2 x3 (x4 + 1)))) else (S_Mo_function_48 n σ x1 x2 x3 (x4 + 1)))) else (S_Mo_function_48 n σ x1 x2 x3 (x4 + 1))))
set_option maxRecDepth 100000 in
set_option maxHeartbeats 4000000 in
theorem w_Mo_function_48 {p : Program} {l : Launch} {e : Env} {s : State} {m : MethodId} {args : Array Value} {below : List Frame} {meth : Method} {c : Code} {D : va_G} {cs : Nat → ClassId} {B dE mo : Nat} {ad : Nat → Nat} {M0 : gMem} (C : CallFix p m c c_Mo_function 5 s args gT R_Mo) (hE : gEnv D gcl (gtys cs) gz B dE s) (hr : meth.sig.returnType = (some .int)) (hlocks : meth.locks = false) (n : Nat) (σ : mSt) (x1 : Int32) (x2 : Int32) (x3 : Int32) (x4 : Int32) (Fv : Int32 × mSt) (hS : S_Mo_function_48 n σ x1 x2 x3 x4) (hF : F_Mo_function_48 n σ x1 x2 x3 x4 = Fv) : GW p l e ({ frames := 2, cells := 0, slots := 0, locals := 47 } : Room) s m args below meth c 5 (gA B) (mQ below D cs B mo ad M0 (fun r σ' => r = some (.int Fv.1) ∧ σ' = Fv.2) args s) (mo_P D B cs mo ad M0 σ) 0 0 48 [(0, .ref mo), (1, .int x1), (2, .int x2), (3, .int x3), (4, .int x4)] [] := by
  induction n generalizing σ x1 x2 x3 x4 Fv with
  | zero => exact hS.elim
  | succ n ih =>
    unfold F_Mo_function_48 at hF
    unfold S_Mo_function_48 at hS
    refine g_iload C d_Mo_function_48 rfl ?_
    refine g_aload_n C d_Mo_function_50 rfl ?_
    refine m_geti C hE 3 (by decide) (by decide) kf_Mo_155 d_Mo_function_51 ?_
    refine g_icmp_ge C 99 d_Mo_function_54 (by decide) (fun hc1 => ?_) (fun hc1 => ?_)
    · rw [if_pos hc1] at hF hS
      refine g_aload_n C d_Mo_function_99 rfl ?_
      refine g_aload_n C d_Mo_function_100 rfl ?_
      refine m_geti C hE 3 (by decide) (by decide) kf_Mo_155 d_Mo_function_101 ?_
      refine g_bipush (v := 63) C d_Mo_function_104 (by decide) ?_
      refine g_icmp_ne C 113 d_Mo_function_106 (by decide) (fun hc2 => ?_) (fun hc2 => ?_)
      · rw [if_neg hc2] at hF hS
        refine g_iconst (v := 0) C d_Mo_function_113 (by decide) ?_
        refine m_puti C hE 4 (by decide) (by decide) rfl rfl kf_Mo_142 d_Mo_function_114 ?_
        refine g_aload_n C d_Mo_function_117 rfl ?_
        refine m_geti C hE 4 (by decide) (by decide) kf_Mo_142 d_Mo_function_118 ?_
        refine g_if_eq C 128 d_Mo_function_121 (by decide) (fun hc3 => ?_) (fun hc3 => ?_)
        · rw [if_pos hc3] at hF hS
          refine g_aload_n C d_Mo_function_128 rfl ?_
          refine g_iload_n C d_Mo_function_129 rfl ?_
          refine g_iload_n C d_Mo_function_130 rfl ?_
          refine g_iload_n C d_Mo_function_131 rfl ?_
          obtain ⟨hs5, hS⟩ := hS
          refine m_callV (n := 3) (av := [.int x1, .int x2, .int x3]) (rest := []) C hE (mc_Mo_typeOf l D cs B dE mo ad n _ _ _ _ hs5) km_Mo_198 kv_Mo_typeOf kl_Mo_typeOf kd_Mo_typeOf ki_Mo ⟨rfl, by decide, by decide, by decide⟩ rfl ⟨rfl, rfl⟩ (by decide) (by decide) d_Mo_function_132 (Nat.le_of_ble_eq_true rfl) _ rfl (fun v1 σ1 hv => ?_)
          obtain ⟨rfl, rfl⟩ := hv
          rw [mbind_eq] at hF hS
          generalize F_Mo_typeOf n (mo_si σ 4 0) x1 x2 x3 = w4 at hF hS ⊢
          refine GW.eqs (st' := [.int w4.1]) rfl ?_
          exact m_iret C hr hlocks d_Mo_function_135 (by rw [← hF]; exact ⟨rfl, rfl⟩)
        · rw [if_neg hc3] at hF hS
          refine g_iconst (v := 0) C d_Mo_function_124 (by decide) ?_
          refine g_goto C 135 d_Mo_function_125 (by decide) ?_
          exact m_iret C hr hlocks d_Mo_function_135 (by rw [← hF]; exact ⟨rfl, rfl⟩)
      · rw [if_pos hc2] at hF hS
        refine g_iconst (v := 2) C d_Mo_function_109 (by decide) ?_
        refine g_goto C 114 d_Mo_function_110 (by decide) ?_
        refine m_puti C hE 4 (by decide) (by decide) rfl rfl kf_Mo_142 d_Mo_function_114 ?_
        refine g_aload_n C d_Mo_function_117 rfl ?_
        refine m_geti C hE 4 (by decide) (by decide) kf_Mo_142 d_Mo_function_118 ?_
        refine g_if_eq C 128 d_Mo_function_121 (by decide) (fun hc6 => ?_) (fun hc6 => ?_)
        · rw [if_pos hc6] at hF hS
          refine g_aload_n C d_Mo_function_128 rfl ?_
          refine g_iload_n C d_Mo_function_129 rfl ?_
          refine g_iload_n C d_Mo_function_130 rfl ?_
          refine g_iload_n C d_Mo_function_131 rfl ?_
          obtain ⟨hs8, hS⟩ := hS
          refine m_callV (n := 3) (av := [.int x1, .int x2, .int x3]) (rest := []) C hE (mc_Mo_typeOf l D cs B dE mo ad n _ _ _ _ hs8) km_Mo_198 kv_Mo_typeOf kl_Mo_typeOf kd_Mo_typeOf ki_Mo ⟨rfl, by decide, by decide, by decide⟩ rfl ⟨rfl, rfl⟩ (by decide) (by decide) d_Mo_function_132 (Nat.le_of_ble_eq_true rfl) _ rfl (fun v1 σ1 hv => ?_)
          obtain ⟨rfl, rfl⟩ := hv
          rw [mbind_eq] at hF hS
          generalize F_Mo_typeOf n (mo_si σ 4 2) x1 x2 x3 = w7 at hF hS ⊢
          refine GW.eqs (st' := [.int w7.1]) rfl ?_
          exact m_iret C hr hlocks d_Mo_function_135 (by rw [← hF]; exact ⟨rfl, rfl⟩)
        · rw [if_neg hc6] at hF hS
          refine g_iconst (v := 0) C d_Mo_function_124 (by decide) ?_
          refine g_goto C 135 d_Mo_function_125 (by decide) ?_
          exact m_iret C hr hlocks d_Mo_function_135 (by rw [← hF]; exact ⟨rfl, rfl⟩)
    · rw [if_neg hc1] at hF hS
      refine g_aload_n C d_Mo_function_57 rfl ?_
      refine m_geta C hE 20 (by decide) (by decide) (by decide) kf_Mo_55 d_Mo_function_58 ?_
      refine g_iload C d_Mo_function_61 rfl ?_
      obtain ⟨hi9, hS⟩ := hS
      refine m_ald C hE 20 (by decide) (by decide) hi9 d_Mo_function_63 ?_
      refine g_iload_n C d_Mo_function_64 rfl ?_
      refine g_icmp_ne C 93 d_Mo_function_65 (by decide) (fun hc10 => ?_) (fun hc10 => ?_)
      · rw [if_neg hc10] at hF hS
        refine g_iinc (v := x4 + 1) (lv' := [(4, .int (x4 + 1)), (0, .ref mo), (1, .int x1), (2, .int x2), (3, .int x3)]) C d_Mo_function_93 rfl rfl (by decide) rfl ?_
        refine g_goto C 48 d_Mo_function_96 (by decide) ?_
        refine GW.subl [1, 2, 3, 4, 0] rfl ?_
        exact ih σ x1 x2 x3 (x4 + 1) Fv hS hF
      · rw [if_pos hc10] at hF hS
        refine g_aload_n C d_Mo_function_68 rfl ?_
        refine m_geta C hE 21 (by decide) (by decide) (by decide) kf_Mo_58 d_Mo_function_69 ?_
        refine g_iload C d_Mo_function_72 rfl ?_
        obtain ⟨hi11, hS⟩ := hS
        refine m_ald C hE 21 (by decide) (by decide) hi11 d_Mo_function_74 ?_
        refine g_iload_n C d_Mo_function_75 rfl ?_
        refine g_icmp_ne C 93 d_Mo_function_76 (by decide) (fun hc12 => ?_) (fun hc12 => ?_)
        · rw [if_neg hc12] at hF hS
          refine g_iinc (v := x4 + 1) (lv' := [(4, .int (x4 + 1)), (0, .ref mo), (1, .int x1), (2, .int x2), (3, .int x3)]) C d_Mo_function_93 rfl rfl (by decide) rfl ?_
          refine g_goto C 48 d_Mo_function_96 (by decide) ?_
          refine GW.subl [1, 2, 3, 4, 0] rfl ?_
          exact ih σ x1 x2 x3 (x4 + 1) Fv hS hF
        · rw [if_pos hc12] at hF hS
          refine g_aload_n C d_Mo_function_79 rfl ?_
          refine m_geta C hE 22 (by decide) (by decide) (by decide) kf_Mo_61 d_Mo_function_80 ?_
          refine g_iload C d_Mo_function_83 rfl ?_
          obtain ⟨hi13, hS⟩ := hS
          refine m_ald C hE 22 (by decide) (by decide) hi13 d_Mo_function_85 ?_
          refine g_iload_n C d_Mo_function_86 rfl ?_
          refine g_icmp_ne C 93 d_Mo_function_87 (by decide) (fun hc14 => ?_) (fun hc14 => ?_)
          · rw [if_neg hc14] at hF hS
            refine g_iinc (v := x4 + 1) (lv' := [(4, .int (x4 + 1)), (0, .ref mo), (1, .int x1), (2, .int x2), (3, .int x3)]) C d_Mo_function_93 rfl rfl (by decide) rfl ?_
            refine g_goto C 48 d_Mo_function_96 (by decide) ?_
            refine GW.subl [1, 2, 3, 4, 0] rfl ?_
            exact ih σ x1 x2 x3 (x4 + 1) Fv hS hF
          · rw [if_pos hc14] at hF hS
            refine g_iload C d_Mo_function_90 rfl ?_
            exact m_iret C hr hlocks d_Mo_function_92 (by rw [← hF]; exact ⟨rfl, rfl⟩)
def F_Mo_function (n : Nat) (σ : mSt) (x1 : Int32) (x2 : Int32) (x3 : Int32) : Int32 × mSt := mbind (F_Mo_isType σ x1) (fun w15 => if w15.1 = 0 then (if ((mo_si w15.2 4 1).1 4) = 0 then (F_Mo_function_48 n (mo_si w15.2 4 1) x1 x2 x3 3) else ((0, mo_si w15.2 4 1))) else (mbind (F_Mo_isType w15.2 x2) (fun w19 => if w19.1 = 0 then (if ((mo_si w19.2 4 1).1 4) = 0 then (F_Mo_function_48 n (mo_si w19.2 4 1) x1 x2 x3 3) else ((0, mo_si w19.2 4 1))) else (if x3 < 0 then (if ((mo_si w19.2 4 1).1 4) = 0 then (F_Mo_function_48 n (mo_si w19.2 4 1) x1 x2 x3 3) else ((0, mo_si w19.2 4 1))) else (if x3 ≤ 255 then (if ((mo_si w19.2 4 0).1 4) = 0 then (F_Mo_function_48 n (mo_si w19.2 4 0) x1 x2 x3 3) else ((0, mo_si w19.2 4 0))) else (if ((mo_si w19.2 4 1).1 4) = 0 then (F_Mo_function_48 n (mo_si w19.2 4 1) x1 x2 x3 3) else ((0, mo_si w19.2 4 1))))))))
def S_Mo_function (n : Nat) (σ : mSt) (x1 : Int32) (x2 : Int32) (x3 : Int32) : Prop := (S_Mo_isType σ x1) ∧ (mbind (F_Mo_isType σ x1) (fun w15 => if w15.1 = 0 then (if ((mo_si w15.2 4 1).1 4) = 0 then (S_Mo_function_48 n (mo_si w15.2 4 1) x1 x2 x3 3) else (True)) else ((S_Mo_isType w15.2 x2) ∧ (mbind (F_Mo_isType w15.2 x2) (fun w19 => if w19.1 = 0 then (if ((mo_si w19.2 4 1).1 4) = 0 then (S_Mo_function_48 n (mo_si w19.2 4 1) x1 x2 x3 3) else (True)) else (if x3 < 0 then (if ((mo_si w19.2 4 1).1 4) = 0 then (S_Mo_function_48 n (mo_si w19.2 4 1) x1 x2 x3 3) else (True)) else (if x3 ≤ 255 then (if ((mo_si w19.2 4 0).1 4) = 0 then (S_Mo_function_48 n (mo_si w19.2 4 0) x1 x2 x3 3) else (True)) else (if ((mo_si w19.2 4 1).1 4) = 0 then (S_Mo_function_48 n (mo_si w19.2 4 1) x1 x2 x3 3) else (True)))))))))
set_option maxRecDepth 100000 in
set_option maxHeartbeats 4000000 in
theorem mc_Mo_function (l : Launch) (D : va_G) (cs : Nat → ClassId) (B dE mo : Nat) (ad : Nat → Nat) (n : Nat) (σ : mSt) (x1 : Int32) (x2 : Int32) (x3 : Int32) (hS : S_Mo_function n σ x1 x2 x3) : mMet l y_Mo_function (Cond.code y_Mo_function c_Mo_function 5 (some .int)) ({ frames := 2, cells := 0, slots := 0, locals := 47 } : Room) D cs B dE mo ad [.ref mo, .int x1, .int x2, .int x3] σ (fun r σ' => r = some (.int (F_Mo_function n σ x1 x2 x3).1) ∧ σ' = (F_Mo_function n σ x1 x2 x3).2) := by
  refine mMet.ofW (by decide) rfl (Nat.le_of_ble_eq_true rfl) (lv0 := [(0, .ref mo), (1, .int x1), (2, .int x2), (3, .int x3)]) rfl ?_
  intro p e s m args below meth c M0 C hE hr hlocks
  generalize hF : F_Mo_function n σ x1 x2 x3 = Fv
  unfold F_Mo_function at hF
  unfold S_Mo_function at hS
  refine g_aload_n C d_Mo_function_0 rfl ?_
  refine g_aload_n C d_Mo_function_1 rfl ?_
  refine g_iload_n C d_Mo_function_2 rfl ?_
  obtain ⟨hs16, hS⟩ := hS
  refine m_callV (n := 1) (av := [.int x1]) (rest := [.ref mo]) C hE (mc_Mo_isType l D cs B dE mo ad _ _ hs16) km_Mo_194 kv_Mo_isType kl_Mo_isType kd_Mo_isType ki_Mo ⟨rfl, by decide, by decide, by decide⟩ rfl ⟨rfl, rfl⟩ (by decide) (by decide) d_Mo_function_3 (Nat.le_of_ble_eq_true rfl) _ rfl (fun v1 σ1 hv => ?_)
  obtain ⟨rfl, rfl⟩ := hv
  rw [mbind_eq] at hF hS
  generalize F_Mo_isType σ x1 = w15 at hF hS ⊢
  refine GW.eqs (st' := [.int w15.1, .ref mo]) rfl ?_
  refine g_if_eq C 28 d_Mo_function_6 (by decide) (fun hc17 => ?_) (fun hc17 => ?_)
  · rw [if_pos hc17] at hF hS
    refine g_iconst (v := 1) C d_Mo_function_28 (by decide) ?_
    refine g_goto C 33 d_Mo_function_29 (by decide) ?_
    refine m_puti C hE 4 (by decide) (by decide) rfl rfl kf_Mo_142 d_Mo_function_33 ?_
    refine g_aload_n C d_Mo_function_36 rfl ?_
    refine m_geti C hE 4 (by decide) (by decide) kf_Mo_142 d_Mo_function_37 ?_
    refine g_if_eq C 45 d_Mo_function_40 (by decide) (fun hc18 => ?_) (fun hc18 => ?_)
    · rw [if_pos hc18] at hF hS
      refine g_iconst (v := 3) C d_Mo_function_45 (by decide) ?_
      refine g_istore (lv' := [(4, .int 3), (0, .ref mo), (1, .int x1), (2, .int x2), (3, .int x3)]) C d_Mo_function_46 (by decide) rfl ?_
      refine GW.subl [1, 2, 3, 4, 0] rfl ?_
      exact w_Mo_function_48 C hE hr hlocks n (mo_si w15.2 4 1) x1 x2 x3 3 Fv hS hF
    · rw [if_neg hc18] at hF hS
      refine g_iconst (v := 0) C d_Mo_function_43 (by decide) ?_
      exact m_iret C hr hlocks d_Mo_function_44 (by rw [← hF]; exact ⟨rfl, rfl⟩)
  · rw [if_neg hc17] at hF hS
    refine g_aload_n C d_Mo_function_9 rfl ?_
    refine g_iload_n C d_Mo_function_10 rfl ?_
    obtain ⟨hs20, hS⟩ := hS
    refine m_callV (n := 1) (av := [.int x2]) (rest := [.ref mo]) C hE (mc_Mo_isType l D cs B dE mo ad _ _ hs20) km_Mo_194 kv_Mo_isType kl_Mo_isType kd_Mo_isType ki_Mo ⟨rfl, by decide, by decide, by decide⟩ rfl ⟨rfl, rfl⟩ (by decide) (by decide) d_Mo_function_11 (Nat.le_of_ble_eq_true rfl) _ rfl (fun v1 σ1 hv => ?_)
    obtain ⟨rfl, rfl⟩ := hv
    rw [mbind_eq] at hF hS
    generalize F_Mo_isType w15.2 x2 = w19 at hF hS ⊢
    refine GW.eqs (st' := [.int w19.1, .ref mo]) rfl ?_
    refine g_if_eq C 28 d_Mo_function_14 (by decide) (fun hc21 => ?_) (fun hc21 => ?_)
    · rw [if_pos hc21] at hF hS
      refine g_iconst (v := 1) C d_Mo_function_28 (by decide) ?_
      refine g_goto C 33 d_Mo_function_29 (by decide) ?_
      refine m_puti C hE 4 (by decide) (by decide) rfl rfl kf_Mo_142 d_Mo_function_33 ?_
      refine g_aload_n C d_Mo_function_36 rfl ?_
      refine m_geti C hE 4 (by decide) (by decide) kf_Mo_142 d_Mo_function_37 ?_
      refine g_if_eq C 45 d_Mo_function_40 (by decide) (fun hc22 => ?_) (fun hc22 => ?_)
      · rw [if_pos hc22] at hF hS
        refine g_iconst (v := 3) C d_Mo_function_45 (by decide) ?_
        refine g_istore (lv' := [(4, .int 3), (0, .ref mo), (1, .int x1), (2, .int x2), (3, .int x3)]) C d_Mo_function_46 (by decide) rfl ?_
        refine GW.subl [1, 2, 3, 4, 0] rfl ?_
        exact w_Mo_function_48 C hE hr hlocks n (mo_si w19.2 4 1) x1 x2 x3 3 Fv hS hF
      · rw [if_neg hc22] at hF hS
        refine g_iconst (v := 0) C d_Mo_function_43 (by decide) ?_
        exact m_iret C hr hlocks d_Mo_function_44 (by rw [← hF]; exact ⟨rfl, rfl⟩)
    · rw [if_neg hc21] at hF hS
      refine g_iload_n C d_Mo_function_17 rfl ?_
      refine g_if_lt C 28 d_Mo_function_18 (by decide) (fun hc23 => ?_) (fun hc23 => ?_)
      · rw [if_pos hc23] at hF hS
        refine g_iconst (v := 1) C d_Mo_function_28 (by decide) ?_
        refine g_goto C 33 d_Mo_function_29 (by decide) ?_
        refine m_puti C hE 4 (by decide) (by decide) rfl rfl kf_Mo_142 d_Mo_function_33 ?_
        refine g_aload_n C d_Mo_function_36 rfl ?_
        refine m_geti C hE 4 (by decide) (by decide) kf_Mo_142 d_Mo_function_37 ?_
        refine g_if_eq C 45 d_Mo_function_40 (by decide) (fun hc24 => ?_) (fun hc24 => ?_)
        · rw [if_pos hc24] at hF hS
          refine g_iconst (v := 3) C d_Mo_function_45 (by decide) ?_
          refine g_istore (lv' := [(4, .int 3), (0, .ref mo), (1, .int x1), (2, .int x2), (3, .int x3)]) C d_Mo_function_46 (by decide) rfl ?_
          refine GW.subl [1, 2, 3, 4, 0] rfl ?_
          exact w_Mo_function_48 C hE hr hlocks n (mo_si w19.2 4 1) x1 x2 x3 3 Fv hS hF
        · rw [if_neg hc24] at hF hS
          refine g_iconst (v := 0) C d_Mo_function_43 (by decide) ?_
          exact m_iret C hr hlocks d_Mo_function_44 (by rw [← hF]; exact ⟨rfl, rfl⟩)
      · rw [if_neg hc23] at hF hS
        refine g_iload_n C d_Mo_function_21 rfl ?_
        refine g_sipush (v := 255) C d_Mo_function_22 (by decide) ?_
        refine g_icmp_le C 32 d_Mo_function_25 (by decide) (fun hc25 => ?_) (fun hc25 => ?_)
        · rw [if_pos hc25] at hF hS
          refine g_iconst (v := 0) C d_Mo_function_32 (by decide) ?_
          refine m_puti C hE 4 (by decide) (by decide) rfl rfl kf_Mo_142 d_Mo_function_33 ?_
          refine g_aload_n C d_Mo_function_36 rfl ?_
          refine m_geti C hE 4 (by decide) (by decide) kf_Mo_142 d_Mo_function_37 ?_
          refine g_if_eq C 45 d_Mo_function_40 (by decide) (fun hc26 => ?_) (fun hc26 => ?_)
          · rw [if_pos hc26] at hF hS
            refine g_iconst (v := 3) C d_Mo_function_45 (by decide) ?_
            refine g_istore (lv' := [(4, .int 3), (0, .ref mo), (1, .int x1), (2, .int x2), (3, .int x3)]) C d_Mo_function_46 (by decide) rfl ?_
            refine GW.subl [1, 2, 3, 4, 0] rfl ?_
            exact w_Mo_function_48 C hE hr hlocks n (mo_si w19.2 4 0) x1 x2 x3 3 Fv hS hF
          · rw [if_neg hc26] at hF hS
            refine g_iconst (v := 0) C d_Mo_function_43 (by decide) ?_
            exact m_iret C hr hlocks d_Mo_function_44 (by rw [← hF]; exact ⟨rfl, rfl⟩)
        · rw [if_neg hc25] at hF hS
          refine g_iconst (v := 1) C d_Mo_function_28 (by decide) ?_
          refine g_goto C 33 d_Mo_function_29 (by decide) ?_
          refine m_puti C hE 4 (by decide) (by decide) rfl rfl kf_Mo_142 d_Mo_function_33 ?_
          refine g_aload_n C d_Mo_function_36 rfl ?_
          refine m_geti C hE 4 (by decide) (by decide) kf_Mo_142 d_Mo_function_37 ?_
          refine g_if_eq C 45 d_Mo_function_40 (by decide) (fun hc27 => ?_) (fun hc27 => ?_)
          · rw [if_pos hc27] at hF hS
            refine g_iconst (v := 3) C d_Mo_function_45 (by decide) ?_
            refine g_istore (lv' := [(4, .int 3), (0, .ref mo), (1, .int x1), (2, .int x2), (3, .int x3)]) C d_Mo_function_46 (by decide) rfl ?_
            refine GW.subl [1, 2, 3, 4, 0] rfl ?_
            exact w_Mo_function_48 C hE hr hlocks n (mo_si w19.2 4 1) x1 x2 x3 3 Fv hS hF
          · rw [if_neg hc27] at hF hS
            refine g_iconst (v := 0) C d_Mo_function_43 (by decide) ?_
            exact m_iret C hr hlocks d_Mo_function_44 (by rw [← hF]; exact ⟨rfl, rfl⟩)
def F_Mo_isEffect (σ : mSt) (x0 : Int32) : Int32 × mSt := if x0 < 0 then ((0, σ)) else (if 8 ≤ x0 then ((0, σ)) else ((1, σ)))
def S_Mo_isEffect (σ : mSt) (x0 : Int32) : Prop := if x0 < 0 then (True) else (if 8 ≤ x0 then (True) else (True))
set_option maxRecDepth 100000 in
set_option maxHeartbeats 4000000 in
theorem mc_Mo_isEffect (l : Launch) (D : va_G) (cs : Nat → ClassId) (B dE mo : Nat) (ad : Nat → Nat) (σ : mSt) (x0 : Int32) (hS : S_Mo_isEffect σ x0) : mMet l y_Mo_isEffect (Cond.code y_Mo_isEffect c_Mo_isEffect 1 (some .boolean)) ({ frames := 0, cells := 0, slots := 0, locals := 0 } : Room) D cs B dE mo ad [.int x0] σ (fun r σ' => r = some (.int (F_Mo_isEffect σ x0).1) ∧ σ' = (F_Mo_isEffect σ x0).2) := by
  refine mMet.ofW (by decide) rfl (Nat.le_of_ble_eq_true rfl) (lv0 := [(0, .int x0)]) rfl ?_
  intro p e s m args below meth c M0 C hE hr hlocks
  generalize hF : F_Mo_isEffect σ x0 = Fv
  unfold F_Mo_isEffect at hF
  unfold S_Mo_isEffect at hS
  refine g_iload_n C d_Mo_isEffect_0 rfl ?_
  refine g_if_lt C 14 d_Mo_isEffect_1 (by decide) (fun hc1 => ?_) (fun hc1 => ?_)
  · rw [if_pos hc1] at hF hS
    refine g_iconst (v := 0) C d_Mo_isEffect_14 (by decide) ?_
    exact m_zret C hr hlocks (by decide) d_Mo_isEffect_15 (by rw [← hF]; exact ⟨rfl, rfl⟩)
  · rw [if_neg hc1] at hF hS
    refine g_iload_n C d_Mo_isEffect_4 rfl ?_
    refine g_bipush (v := 8) C d_Mo_isEffect_5 (by decide) ?_
    refine g_icmp_ge C 14 d_Mo_isEffect_7 (by decide) (fun hc2 => ?_) (fun hc2 => ?_)
    · rw [if_pos hc2] at hF hS
      refine g_iconst (v := 0) C d_Mo_isEffect_14 (by decide) ?_
      exact m_zret C hr hlocks (by decide) d_Mo_isEffect_15 (by rw [← hF]; exact ⟨rfl, rfl⟩)
    · rw [if_neg hc2] at hF hS
      refine g_iconst (v := 1) C d_Mo_isEffect_10 (by decide) ?_
      refine g_goto C 15 d_Mo_isEffect_11 (by decide) ?_
      exact m_zret C hr hlocks (by decide) d_Mo_isEffect_15 (by rw [← hF]; exact ⟨rfl, rfl⟩)
def F_Mo_effect (σ : mSt) (x1 : Int32) (x2 : Int32) (x3 : Int32) : mSt := mbind (F_Mo_isEffect σ x1) (fun w1 => if w1.1 = 0 then (if ((mo_si w1.2 4 1).1 4) = 0 then (mo_ai (mo_ai (mo_si w1.2 4 1) 24 x1.toNatClampNeg x2) 25 x1.toNatClampNeg x3) else (mo_si w1.2 4 1)) else (mbind (F_Mo_isType w1.2 x2) (fun w7 => if w7.1 = 0 then (if ((mo_si w7.2 4 1).1 4) = 0 then (mo_ai (mo_ai (mo_si w7.2 4 1) 24 x1.toNatClampNeg x2) 25 x1.toNatClampNeg x3) else (mo_si w7.2 4 1)) else (mbind (F_Mo_isType w7.2 x3) (fun w13 => if w13.1 = 0 then (if ((mo_si w13.2 4 1).1 4) = 0 then (mo_ai (mo_ai (mo_si w13.2 4 1) 24 x1.toNatClampNeg x2) 25 x1.toNatClampNeg x3) else (mo_si w13.2 4 1)) else (if ((mo_si w13.2 4 0).1 4) = 0 then (mo_ai (mo_ai (mo_si w13.2 4 0) 24 x1.toNatClampNeg x2) 25 x1.toNatClampNeg x3) else (mo_si w13.2 4 0)))))))
def S_Mo_effect (σ : mSt) (x1 : Int32) (x2 : Int32) (x3 : Int32) : Prop := (S_Mo_isEffect σ x1) ∧ (mbind (F_Mo_isEffect σ x1) (fun w1 => if w1.1 = 0 then (if ((mo_si w1.2 4 1).1 4) = 0 then ((vp_in x1 8) ∧ ((vp_in x1 8) ∧ (True))) else (True)) else ((S_Mo_isType w1.2 x2) ∧ (mbind (F_Mo_isType w1.2 x2) (fun w7 => if w7.1 = 0 then (if ((mo_si w7.2 4 1).1 4) = 0 then ((vp_in x1 8) ∧ ((vp_in x1 8) ∧ (True))) else (True)) else ((S_Mo_isType w7.2 x3) ∧ (mbind (F_Mo_isType w7.2 x3) (fun w13 => if w13.1 = 0 then (if ((mo_si w13.2 4 1).1 4) = 0 then ((vp_in x1 8) ∧ ((vp_in x1 8) ∧ (True))) else (True)) else (if ((mo_si w13.2 4 0).1 4) = 0 then ((vp_in x1 8) ∧ ((vp_in x1 8) ∧ (True))) else (True))))))))))
set_option maxRecDepth 100000 in
set_option maxHeartbeats 4000000 in
theorem mc_Mo_effect (l : Launch) (D : va_G) (cs : Nat → ClassId) (B dE mo : Nat) (ad : Nat → Nat) (σ : mSt) (x1 : Int32) (x2 : Int32) (x3 : Int32) (hS : S_Mo_effect σ x1 x2 x3) : mMet l y_Mo_effect (Cond.code y_Mo_effect c_Mo_effect 4 none) ({ frames := 1, cells := 0, slots := 0, locals := 21 } : Room) D cs B dE mo ad [.ref mo, .int x1, .int x2, .int x3] σ (fun r σ' => r = none ∧ σ' = F_Mo_effect σ x1 x2 x3) := by
  refine mMet.ofW (by decide) rfl (Nat.le_of_ble_eq_true rfl) (lv0 := [(0, .ref mo), (1, .int x1), (2, .int x2), (3, .int x3)]) rfl ?_
  intro p e s m args below meth c M0 C hE hr hlocks
  generalize hF : F_Mo_effect σ x1 x2 x3 = Fv
  unfold F_Mo_effect at hF
  unfold S_Mo_effect at hS
  refine g_aload_n C d_Mo_effect_0 rfl ?_
  refine g_iload_n C d_Mo_effect_1 rfl ?_
  obtain ⟨hs2, hS⟩ := hS
  refine m_callS (n := 1) (av := [.int x1]) (rest := [.ref mo]) C hE (mc_Mo_isEffect l D cs B dE mo ad _ _ hs2) km_Mo_202 ks_Mo_isEffect kd_Mo_isEffect ki_Mo ⟨rfl, by decide, by decide, by decide⟩ rfl ⟨rfl, rfl⟩ (by decide) (by decide) d_Mo_effect_2 (Nat.le_of_ble_eq_true rfl) _ rfl (fun v1 σ1 hv => ?_)
  obtain ⟨rfl, rfl⟩ := hv
  rw [mbind_eq] at hF hS
  generalize F_Mo_isEffect σ x1 = w1 at hF hS ⊢
  refine GW.eqs (st' := [.int w1.1, .ref mo]) rfl ?_
  refine g_if_eq C 28 d_Mo_effect_5 (by decide) (fun hc3 => ?_) (fun hc3 => ?_)
  · rw [if_pos hc3] at hF hS
    refine g_iconst (v := 1) C d_Mo_effect_28 (by decide) ?_
    refine m_puti C hE 4 (by decide) (by decide) rfl rfl kf_Mo_142 d_Mo_effect_29 ?_
    refine g_aload_n C d_Mo_effect_32 rfl ?_
    refine m_geti C hE 4 (by decide) (by decide) kf_Mo_142 d_Mo_effect_33 ?_
    refine g_if_eq C 40 d_Mo_effect_36 (by decide) (fun hc4 => ?_) (fun hc4 => ?_)
    · rw [if_pos hc4] at hF hS
      refine g_aload_n C d_Mo_effect_40 rfl ?_
      refine m_geta C hE 24 (by decide) (by decide) (by decide) kf_Mo_69 d_Mo_effect_41 ?_
      refine g_iload_n C d_Mo_effect_44 rfl ?_
      refine g_iload_n C d_Mo_effect_45 rfl ?_
      obtain ⟨hi5, hS⟩ := hS
      refine m_ast C hE 24 (by decide) (by decide) hi5 d_Mo_effect_46 ?_
      refine g_aload_n C d_Mo_effect_47 rfl ?_
      refine m_geta C hE 25 (by decide) (by decide) (by decide) kf_Mo_72 d_Mo_effect_48 ?_
      refine g_iload_n C d_Mo_effect_51 rfl ?_
      refine g_iload_n C d_Mo_effect_52 rfl ?_
      obtain ⟨hi6, hS⟩ := hS
      refine m_ast C hE 25 (by decide) (by decide) hi6 d_Mo_effect_53 ?_
      exact m_vret C hr hlocks d_Mo_effect_54 (by rw [← hF]; exact ⟨rfl, rfl⟩)
    · rw [if_neg hc4] at hF hS
      exact m_vret C hr hlocks d_Mo_effect_39 (by rw [← hF]; exact ⟨rfl, rfl⟩)
  · rw [if_neg hc3] at hF hS
    refine g_aload_n C d_Mo_effect_8 rfl ?_
    refine g_iload_n C d_Mo_effect_9 rfl ?_
    obtain ⟨hs8, hS⟩ := hS
    refine m_callV (n := 1) (av := [.int x2]) (rest := [.ref mo]) C hE (mc_Mo_isType l D cs B dE mo ad _ _ hs8) km_Mo_194 kv_Mo_isType kl_Mo_isType kd_Mo_isType ki_Mo ⟨rfl, by decide, by decide, by decide⟩ rfl ⟨rfl, rfl⟩ (by decide) (by decide) d_Mo_effect_10 (Nat.le_of_ble_eq_true rfl) _ rfl (fun v1 σ1 hv => ?_)
    obtain ⟨rfl, rfl⟩ := hv
    rw [mbind_eq] at hF hS
    generalize F_Mo_isType w1.2 x2 = w7 at hF hS ⊢
    refine GW.eqs (st' := [.int w7.1, .ref mo]) rfl ?_
    refine g_if_eq C 28 d_Mo_effect_13 (by decide) (fun hc9 => ?_) (fun hc9 => ?_)
    · rw [if_pos hc9] at hF hS
      refine g_iconst (v := 1) C d_Mo_effect_28 (by decide) ?_
      refine m_puti C hE 4 (by decide) (by decide) rfl rfl kf_Mo_142 d_Mo_effect_29 ?_
      refine g_aload_n C d_Mo_effect_32 rfl ?_
      refine m_geti C hE 4 (by decide) (by decide) kf_Mo_142 d_Mo_effect_33 ?_
      refine g_if_eq C 40 d_Mo_effect_36 (by decide) (fun hc10 => ?_) (fun hc10 => ?_)
      · rw [if_pos hc10] at hF hS
        refine g_aload_n C d_Mo_effect_40 rfl ?_
        refine m_geta C hE 24 (by decide) (by decide) (by decide) kf_Mo_69 d_Mo_effect_41 ?_
        refine g_iload_n C d_Mo_effect_44 rfl ?_
        refine g_iload_n C d_Mo_effect_45 rfl ?_
        obtain ⟨hi11, hS⟩ := hS
        refine m_ast C hE 24 (by decide) (by decide) hi11 d_Mo_effect_46 ?_
        refine g_aload_n C d_Mo_effect_47 rfl ?_
        refine m_geta C hE 25 (by decide) (by decide) (by decide) kf_Mo_72 d_Mo_effect_48 ?_
        refine g_iload_n C d_Mo_effect_51 rfl ?_
        refine g_iload_n C d_Mo_effect_52 rfl ?_
        obtain ⟨hi12, hS⟩ := hS
        refine m_ast C hE 25 (by decide) (by decide) hi12 d_Mo_effect_53 ?_
        exact m_vret C hr hlocks d_Mo_effect_54 (by rw [← hF]; exact ⟨rfl, rfl⟩)
      · rw [if_neg hc10] at hF hS
        exact m_vret C hr hlocks d_Mo_effect_39 (by rw [← hF]; exact ⟨rfl, rfl⟩)
    · rw [if_neg hc9] at hF hS
      refine g_aload_n C d_Mo_effect_16 rfl ?_
      refine g_iload_n C d_Mo_effect_17 rfl ?_
      obtain ⟨hs14, hS⟩ := hS
      refine m_callV (n := 1) (av := [.int x3]) (rest := [.ref mo]) C hE (mc_Mo_isType l D cs B dE mo ad _ _ hs14) km_Mo_194 kv_Mo_isType kl_Mo_isType kd_Mo_isType ki_Mo ⟨rfl, by decide, by decide, by decide⟩ rfl ⟨rfl, rfl⟩ (by decide) (by decide) d_Mo_effect_18 (Nat.le_of_ble_eq_true rfl) _ rfl (fun v1 σ1 hv => ?_)
      obtain ⟨rfl, rfl⟩ := hv
      rw [mbind_eq] at hF hS
      generalize F_Mo_isType w7.2 x3 = w13 at hF hS ⊢
      refine GW.eqs (st' := [.int w13.1, .ref mo]) rfl ?_
      refine g_if_eq C 28 d_Mo_effect_21 (by decide) (fun hc15 => ?_) (fun hc15 => ?_)
      · rw [if_pos hc15] at hF hS
        refine g_iconst (v := 1) C d_Mo_effect_28 (by decide) ?_
        refine m_puti C hE 4 (by decide) (by decide) rfl rfl kf_Mo_142 d_Mo_effect_29 ?_
        refine g_aload_n C d_Mo_effect_32 rfl ?_
        refine m_geti C hE 4 (by decide) (by decide) kf_Mo_142 d_Mo_effect_33 ?_
        refine g_if_eq C 40 d_Mo_effect_36 (by decide) (fun hc16 => ?_) (fun hc16 => ?_)
        · rw [if_pos hc16] at hF hS
          refine g_aload_n C d_Mo_effect_40 rfl ?_
          refine m_geta C hE 24 (by decide) (by decide) (by decide) kf_Mo_69 d_Mo_effect_41 ?_
          refine g_iload_n C d_Mo_effect_44 rfl ?_
          refine g_iload_n C d_Mo_effect_45 rfl ?_
          obtain ⟨hi17, hS⟩ := hS
          refine m_ast C hE 24 (by decide) (by decide) hi17 d_Mo_effect_46 ?_
          refine g_aload_n C d_Mo_effect_47 rfl ?_
          refine m_geta C hE 25 (by decide) (by decide) (by decide) kf_Mo_72 d_Mo_effect_48 ?_
          refine g_iload_n C d_Mo_effect_51 rfl ?_
          refine g_iload_n C d_Mo_effect_52 rfl ?_
          obtain ⟨hi18, hS⟩ := hS
          refine m_ast C hE 25 (by decide) (by decide) hi18 d_Mo_effect_53 ?_
          exact m_vret C hr hlocks d_Mo_effect_54 (by rw [← hF]; exact ⟨rfl, rfl⟩)
        · rw [if_neg hc16] at hF hS
          exact m_vret C hr hlocks d_Mo_effect_39 (by rw [← hF]; exact ⟨rfl, rfl⟩)
      · rw [if_neg hc15] at hF hS
        refine g_iconst (v := 0) C d_Mo_effect_24 (by decide) ?_
        refine g_goto C 29 d_Mo_effect_25 (by decide) ?_
        refine m_puti C hE 4 (by decide) (by decide) rfl rfl kf_Mo_142 d_Mo_effect_29 ?_
        refine g_aload_n C d_Mo_effect_32 rfl ?_
        refine m_geti C hE 4 (by decide) (by decide) kf_Mo_142 d_Mo_effect_33 ?_
        refine g_if_eq C 40 d_Mo_effect_36 (by decide) (fun hc19 => ?_) (fun hc19 => ?_)
        · rw [if_pos hc19] at hF hS
          refine g_aload_n C d_Mo_effect_40 rfl ?_
          refine m_geta C hE 24 (by decide) (by decide) (by decide) kf_Mo_69 d_Mo_effect_41 ?_
          refine g_iload_n C d_Mo_effect_44 rfl ?_
          refine g_iload_n C d_Mo_effect_45 rfl ?_
          obtain ⟨hi20, hS⟩ := hS
          refine m_ast C hE 24 (by decide) (by decide) hi20 d_Mo_effect_46 ?_
          refine g_aload_n C d_Mo_effect_47 rfl ?_
          refine m_geta C hE 25 (by decide) (by decide) (by decide) kf_Mo_72 d_Mo_effect_48 ?_
          refine g_iload_n C d_Mo_effect_51 rfl ?_
          refine g_iload_n C d_Mo_effect_52 rfl ?_
          obtain ⟨hi21, hS⟩ := hS
          refine m_ast C hE 25 (by decide) (by decide) hi21 d_Mo_effect_53 ?_
          exact m_vret C hr hlocks d_Mo_effect_54 (by rw [← hF]; exact ⟨rfl, rfl⟩)
        · rw [if_neg hc19] at hF hS
          exact m_vret C hr hlocks d_Mo_effect_39 (by rw [← hF]; exact ⟨rfl, rfl⟩)
def F_Mo_type (σ : mSt) (x1 : Int32) (x2 : Int32) : Int32 × mSt := if x1 < 3 then (((-1), mo_si σ 4 0)) else (if x1 < ((mo_si σ 4 0).1 3) then (if x2 = 0 then (((mo_si σ 4 0).2.2.1 20 x1.toNatClampNeg, mo_si σ 4 0)) else (if x2 = 1 then (((mo_si σ 4 0).2.2.1 21 x1.toNatClampNeg, mo_si σ 4 0)) else (if x2 = 2 then (((mo_si σ 4 0).2.2.1 22 x1.toNatClampNeg, mo_si σ 4 0)) else (((-1), mo_si σ 4 0))))) else (((-1), mo_si σ 4 0)))
def S_Mo_type (σ : mSt) (x1 : Int32) (x2 : Int32) : Prop := if x1 < 3 then (True) else (if x1 < ((mo_si σ 4 0).1 3) then (if x2 = 0 then ((vp_in x1 520) ∧ (True)) else (if x2 = 1 then ((vp_in x1 520) ∧ (True)) else (if x2 = 2 then ((vp_in x1 520) ∧ (True)) else (True)))) else (True))
set_option maxRecDepth 100000 in
set_option maxHeartbeats 4000000 in
theorem mc_Mo_type (l : Launch) (D : va_G) (cs : Nat → ClassId) (B dE mo : Nat) (ad : Nat → Nat) (σ : mSt) (x1 : Int32) (x2 : Int32) (hS : S_Mo_type σ x1 x2) : mMet l y_Mo_type (Cond.code y_Mo_type c_Mo_type 3 (some .int)) ({ frames := 0, cells := 0, slots := 0, locals := 0 } : Room) D cs B dE mo ad [.ref mo, .int x1, .int x2] σ (fun r σ' => r = some (.int (F_Mo_type σ x1 x2).1) ∧ σ' = (F_Mo_type σ x1 x2).2) := by
  refine mMet.ofW (by decide) rfl (Nat.le_of_ble_eq_true rfl) (lv0 := [(0, .ref mo), (1, .int x1), (2, .int x2)]) rfl ?_
  intro p e s m args below meth c M0 C hE hr hlocks
  generalize hF : F_Mo_type σ x1 x2 = Fv
  unfold F_Mo_type at hF
  unfold S_Mo_type at hS
  refine g_aload_n C d_Mo_type_0 rfl ?_
  refine g_iconst (v := 0) C d_Mo_type_1 (by decide) ?_
  refine m_puti C hE 4 (by decide) (by decide) rfl rfl kf_Mo_142 d_Mo_type_2 ?_
  refine g_iload_n C d_Mo_type_5 rfl ?_
  refine g_iconst (v := 3) C d_Mo_type_6 (by decide) ?_
  refine g_icmp_lt C 18 d_Mo_type_7 (by decide) (fun hc1 => ?_) (fun hc1 => ?_)
  · rw [if_pos hc1] at hF hS
    refine g_iconst (v := (-1)) C d_Mo_type_18 (by decide) ?_
    exact m_iret C hr hlocks d_Mo_type_19 (by rw [← hF]; exact ⟨rfl, rfl⟩)
  · rw [if_neg hc1] at hF hS
    refine g_iload_n C d_Mo_type_10 rfl ?_
    refine g_aload_n C d_Mo_type_11 rfl ?_
    refine m_geti C hE 3 (by decide) (by decide) kf_Mo_155 d_Mo_type_12 ?_
    refine g_icmp_lt C 20 d_Mo_type_15 (by decide) (fun hc2 => ?_) (fun hc2 => ?_)
    · rw [if_pos hc2] at hF hS
      refine g_iload_n C d_Mo_type_20 rfl ?_
      refine g_if_ne C 33 d_Mo_type_21 (by decide) (fun hc3 => ?_) (fun hc3 => ?_)
      · rw [if_neg hc3] at hF hS
        refine g_iload_n C d_Mo_type_33 rfl ?_
        refine g_iconst (v := 1) C d_Mo_type_34 (by decide) ?_
        refine g_icmp_ne C 47 d_Mo_type_35 (by decide) (fun hc4 => ?_) (fun hc4 => ?_)
        · rw [if_neg hc4] at hF hS
          refine g_iload_n C d_Mo_type_47 rfl ?_
          refine g_iconst (v := 2) C d_Mo_type_48 (by decide) ?_
          refine g_icmp_ne C 61 d_Mo_type_49 (by decide) (fun hc5 => ?_) (fun hc5 => ?_)
          · rw [if_neg hc5] at hF hS
            refine g_iconst (v := (-1)) C d_Mo_type_61 (by decide) ?_
            exact m_iret C hr hlocks d_Mo_type_62 (by rw [← hF]; exact ⟨rfl, rfl⟩)
          · rw [if_pos hc5] at hF hS
            refine g_aload_n C d_Mo_type_52 rfl ?_
            refine m_geta C hE 22 (by decide) (by decide) (by decide) kf_Mo_61 d_Mo_type_53 ?_
            refine g_iload_n C d_Mo_type_56 rfl ?_
            obtain ⟨hi6, hS⟩ := hS
            refine m_ald C hE 22 (by decide) (by decide) hi6 d_Mo_type_57 ?_
            refine g_goto C 62 d_Mo_type_58 (by decide) ?_
            exact m_iret C hr hlocks d_Mo_type_62 (by rw [← hF]; exact ⟨rfl, rfl⟩)
        · rw [if_pos hc4] at hF hS
          refine g_aload_n C d_Mo_type_38 rfl ?_
          refine m_geta C hE 21 (by decide) (by decide) (by decide) kf_Mo_58 d_Mo_type_39 ?_
          refine g_iload_n C d_Mo_type_42 rfl ?_
          obtain ⟨hi7, hS⟩ := hS
          refine m_ald C hE 21 (by decide) (by decide) hi7 d_Mo_type_43 ?_
          refine g_goto C 62 d_Mo_type_44 (by decide) ?_
          exact m_iret C hr hlocks d_Mo_type_62 (by rw [← hF]; exact ⟨rfl, rfl⟩)
      · rw [if_pos hc3] at hF hS
        refine g_aload_n C d_Mo_type_24 rfl ?_
        refine m_geta C hE 20 (by decide) (by decide) (by decide) kf_Mo_55 d_Mo_type_25 ?_
        refine g_iload_n C d_Mo_type_28 rfl ?_
        obtain ⟨hi8, hS⟩ := hS
        refine m_ald C hE 20 (by decide) (by decide) hi8 d_Mo_type_29 ?_
        refine g_goto C 62 d_Mo_type_30 (by decide) ?_
        exact m_iret C hr hlocks d_Mo_type_62 (by rw [← hF]; exact ⟨rfl, rfl⟩)
    · rw [if_neg hc2] at hF hS
      refine g_iconst (v := (-1)) C d_Mo_type_18 (by decide) ?_
      exact m_iret C hr hlocks d_Mo_type_19 (by rw [← hF]; exact ⟨rfl, rfl⟩)
def F_Mo_fits (σ : mSt) (x1 : Int32) (x2 : Int32) : Int32 × mSt := mbind (F_Mo_isType (mo_si σ 4 0) x1) (fun w1 => if w1.1 = 0 then ((0, w1.2)) else (mbind (F_Mo_isType w1.2 x2) (fun w4 => if w4.1 = 0 then ((0, w4.2)) else (if (w4.2.2.2.1 23 ((520 * x1) + x2).toNatClampNeg) = 0 then ((0, w4.2)) else ((1, w4.2))))))
def S_Mo_fits (σ : mSt) (x1 : Int32) (x2 : Int32) : Prop := (S_Mo_isType (mo_si σ 4 0) x1) ∧ (mbind (F_Mo_isType (mo_si σ 4 0) x1) (fun w1 => if w1.1 = 0 then (True) else ((S_Mo_isType w1.2 x2) ∧ (mbind (F_Mo_isType w1.2 x2) (fun w4 => if w4.1 = 0 then (True) else ((vp_in ((520 * x1) + x2) 270400) ∧ (if (w4.2.2.2.1 23 ((520 * x1) + x2).toNatClampNeg) = 0 then (True) else (True))))))))
set_option maxRecDepth 100000 in
set_option maxHeartbeats 4000000 in
theorem mc_Mo_fits (l : Launch) (D : va_G) (cs : Nat → ClassId) (B dE mo : Nat) (ad : Nat → Nat) (σ : mSt) (x1 : Int32) (x2 : Int32) (hS : S_Mo_fits σ x1 x2) : mMet l y_Mo_fits (Cond.code y_Mo_fits c_Mo_fits 3 (some .boolean)) ({ frames := 1, cells := 0, slots := 0, locals := 21 } : Room) D cs B dE mo ad [.ref mo, .int x1, .int x2] σ (fun r σ' => r = some (.int (F_Mo_fits σ x1 x2).1) ∧ σ' = (F_Mo_fits σ x1 x2).2) := by
  refine mMet.ofW (by decide) rfl (Nat.le_of_ble_eq_true rfl) (lv0 := [(0, .ref mo), (1, .int x1), (2, .int x2)]) rfl ?_
  intro p e s m args below meth c M0 C hE hr hlocks
  generalize hF : F_Mo_fits σ x1 x2 = Fv
  unfold F_Mo_fits at hF
  unfold S_Mo_fits at hS
  refine g_aload_n C d_Mo_fits_0 rfl ?_
  refine g_iconst (v := 0) C d_Mo_fits_1 (by decide) ?_
  refine m_puti C hE 4 (by decide) (by decide) rfl rfl kf_Mo_142 d_Mo_fits_2 ?_
  refine g_aload_n C d_Mo_fits_5 rfl ?_
  refine g_iload_n C d_Mo_fits_6 rfl ?_
  obtain ⟨hs2, hS⟩ := hS
  refine m_callV (n := 1) (av := [.int x1]) (rest := []) C hE (mc_Mo_isType l D cs B dE mo ad _ _ hs2) km_Mo_194 kv_Mo_isType kl_Mo_isType kd_Mo_isType ki_Mo ⟨rfl, by decide, by decide, by decide⟩ rfl ⟨rfl, rfl⟩ (by decide) (by decide) d_Mo_fits_7 (Nat.le_of_ble_eq_true rfl) _ rfl (fun v1 σ1 hv => ?_)
  obtain ⟨rfl, rfl⟩ := hv
  rw [mbind_eq] at hF hS
  generalize F_Mo_isType (mo_si σ 4 0) x1 = w1 at hF hS ⊢
  refine GW.eqs (st' := [.int w1.1]) rfl ?_
  refine g_if_eq C 40 d_Mo_fits_10 (by decide) (fun hc3 => ?_) (fun hc3 => ?_)
  · rw [if_pos hc3] at hF hS
    refine g_iconst (v := 0) C d_Mo_fits_40 (by decide) ?_
    exact m_zret C hr hlocks (by decide) d_Mo_fits_41 (by rw [← hF]; exact ⟨rfl, rfl⟩)
  · rw [if_neg hc3] at hF hS
    refine g_aload_n C d_Mo_fits_13 rfl ?_
    refine g_iload_n C d_Mo_fits_14 rfl ?_
    obtain ⟨hs5, hS⟩ := hS
    refine m_callV (n := 1) (av := [.int x2]) (rest := []) C hE (mc_Mo_isType l D cs B dE mo ad _ _ hs5) km_Mo_194 kv_Mo_isType kl_Mo_isType kd_Mo_isType ki_Mo ⟨rfl, by decide, by decide, by decide⟩ rfl ⟨rfl, rfl⟩ (by decide) (by decide) d_Mo_fits_15 (Nat.le_of_ble_eq_true rfl) _ rfl (fun v1 σ1 hv => ?_)
    obtain ⟨rfl, rfl⟩ := hv
    rw [mbind_eq] at hF hS
    generalize F_Mo_isType w1.2 x2 = w4 at hF hS ⊢
    refine GW.eqs (st' := [.int w4.1]) rfl ?_
    refine g_if_eq C 40 d_Mo_fits_18 (by decide) (fun hc6 => ?_) (fun hc6 => ?_)
    · rw [if_pos hc6] at hF hS
      refine g_iconst (v := 0) C d_Mo_fits_40 (by decide) ?_
      exact m_zret C hr hlocks (by decide) d_Mo_fits_41 (by rw [← hF]; exact ⟨rfl, rfl⟩)
    · rw [if_neg hc6] at hF hS
      refine g_aload_n C d_Mo_fits_21 rfl ?_
      refine m_geta C hE 23 (by decide) (by decide) (by decide) kf_Mo_65 d_Mo_fits_22 ?_
      refine g_sipush (v := 520) C d_Mo_fits_25 (by decide) ?_
      refine g_iload_n C d_Mo_fits_28 rfl ?_
      refine g_imul C d_Mo_fits_29 ?_
      refine g_iload_n C d_Mo_fits_30 rfl ?_
      refine g_iadd C d_Mo_fits_31 ?_
      obtain ⟨hi7, hS⟩ := hS
      refine m_zald C hE 23 (by decide) (by decide) hi7 d_Mo_fits_32 ?_
      refine g_if_eq C 40 d_Mo_fits_33 (by decide) (fun hc8 => ?_) (fun hc8 => ?_)
      · rw [if_pos hc8] at hF hS
        refine g_iconst (v := 0) C d_Mo_fits_40 (by decide) ?_
        exact m_zret C hr hlocks (by decide) d_Mo_fits_41 (by rw [← hF]; exact ⟨rfl, rfl⟩)
      · rw [if_neg hc8] at hF hS
        refine g_iconst (v := 1) C d_Mo_fits_36 (by decide) ?_
        refine g_goto C 41 d_Mo_fits_37 (by decide) ?_
        exact m_zret C hr hlocks (by decide) d_Mo_fits_41 (by rw [← hF]; exact ⟨rfl, rfl⟩)
def F_Mo_isNode (σ : mSt) (x1 : Int32) : Int32 × mSt := if x1 < 0 then ((0, σ)) else (if (σ.1 0) ≤ x1 then ((0, σ)) else ((1, σ)))
def S_Mo_isNode (σ : mSt) (x1 : Int32) : Prop := if x1 < 0 then (True) else (if (σ.1 0) ≤ x1 then (True) else (True))
set_option maxRecDepth 100000 in
set_option maxHeartbeats 4000000 in
theorem mc_Mo_isNode (l : Launch) (D : va_G) (cs : Nat → ClassId) (B dE mo : Nat) (ad : Nat → Nat) (σ : mSt) (x1 : Int32) (hS : S_Mo_isNode σ x1) : mMet l y_Mo_isNode (Cond.code y_Mo_isNode c_Mo_isNode 2 (some .boolean)) ({ frames := 0, cells := 0, slots := 0, locals := 0 } : Room) D cs B dE mo ad [.ref mo, .int x1] σ (fun r σ' => r = some (.int (F_Mo_isNode σ x1).1) ∧ σ' = (F_Mo_isNode σ x1).2) := by
  refine mMet.ofW (by decide) rfl (Nat.le_of_ble_eq_true rfl) (lv0 := [(0, .ref mo), (1, .int x1)]) rfl ?_
  intro p e s m args below meth c M0 C hE hr hlocks
  generalize hF : F_Mo_isNode σ x1 = Fv
  unfold F_Mo_isNode at hF
  unfold S_Mo_isNode at hS
  refine g_iload_n C d_Mo_isNode_0 rfl ?_
  refine g_if_lt C 16 d_Mo_isNode_1 (by decide) (fun hc1 => ?_) (fun hc1 => ?_)
  · rw [if_pos hc1] at hF hS
    refine g_iconst (v := 0) C d_Mo_isNode_16 (by decide) ?_
    exact m_zret C hr hlocks (by decide) d_Mo_isNode_17 (by rw [← hF]; exact ⟨rfl, rfl⟩)
  · rw [if_neg hc1] at hF hS
    refine g_iload_n C d_Mo_isNode_4 rfl ?_
    refine g_aload_n C d_Mo_isNode_5 rfl ?_
    refine m_geti C hE 0 (by decide) (by decide) kf_Mo_146 d_Mo_isNode_6 ?_
    refine g_icmp_ge C 16 d_Mo_isNode_9 (by decide) (fun hc2 => ?_) (fun hc2 => ?_)
    · rw [if_pos hc2] at hF hS
      refine g_iconst (v := 0) C d_Mo_isNode_16 (by decide) ?_
      exact m_zret C hr hlocks (by decide) d_Mo_isNode_17 (by rw [← hF]; exact ⟨rfl, rfl⟩)
    · rw [if_neg hc2] at hF hS
      refine g_iconst (v := 1) C d_Mo_isNode_12 (by decide) ?_
      refine g_goto C 17 d_Mo_isNode_13 (by decide) ?_
      exact m_zret C hr hlocks (by decide) d_Mo_isNode_17 (by rw [← hF]; exact ⟨rfl, rfl⟩)
def F_Mo_isName (σ : mSt) (x0 : Int32) : Int32 × mSt := if x0 < 0 then ((0, σ)) else (if 10 ≤ x0 then ((0, σ)) else ((1, σ)))
def S_Mo_isName (σ : mSt) (x0 : Int32) : Prop := if x0 < 0 then (True) else (if 10 ≤ x0 then (True) else (True))
set_option maxRecDepth 100000 in
set_option maxHeartbeats 4000000 in
theorem mc_Mo_isName (l : Launch) (D : va_G) (cs : Nat → ClassId) (B dE mo : Nat) (ad : Nat → Nat) (σ : mSt) (x0 : Int32) (hS : S_Mo_isName σ x0) : mMet l y_Mo_isName (Cond.code y_Mo_isName c_Mo_isName 1 (some .boolean)) ({ frames := 0, cells := 0, slots := 0, locals := 0 } : Room) D cs B dE mo ad [.int x0] σ (fun r σ' => r = some (.int (F_Mo_isName σ x0).1) ∧ σ' = (F_Mo_isName σ x0).2) := by
  refine mMet.ofW (by decide) rfl (Nat.le_of_ble_eq_true rfl) (lv0 := [(0, .int x0)]) rfl ?_
  intro p e s m args below meth c M0 C hE hr hlocks
  generalize hF : F_Mo_isName σ x0 = Fv
  unfold F_Mo_isName at hF
  unfold S_Mo_isName at hS
  refine g_iload_n C d_Mo_isName_0 rfl ?_
  refine g_if_lt C 14 d_Mo_isName_1 (by decide) (fun hc1 => ?_) (fun hc1 => ?_)
  · rw [if_pos hc1] at hF hS
    refine g_iconst (v := 0) C d_Mo_isName_14 (by decide) ?_
    exact m_zret C hr hlocks (by decide) d_Mo_isName_15 (by rw [← hF]; exact ⟨rfl, rfl⟩)
  · rw [if_neg hc1] at hF hS
    refine g_iload_n C d_Mo_isName_4 rfl ?_
    refine g_bipush (v := 10) C d_Mo_isName_5 (by decide) ?_
    refine g_icmp_ge C 14 d_Mo_isName_7 (by decide) (fun hc2 => ?_) (fun hc2 => ?_)
    · rw [if_pos hc2] at hF hS
      refine g_iconst (v := 0) C d_Mo_isName_14 (by decide) ?_
      exact m_zret C hr hlocks (by decide) d_Mo_isName_15 (by rw [← hF]; exact ⟨rfl, rfl⟩)
    · rw [if_neg hc2] at hF hS
      refine g_iconst (v := 1) C d_Mo_isName_10 (by decide) ?_
      refine g_goto C 15 d_Mo_isName_11 (by decide) ?_
      exact m_zret C hr hlocks (by decide) d_Mo_isName_15 (by rw [← hF]; exact ⟨rfl, rfl⟩)
def F_Mo_counts (σ : mSt) (x1 : Int32) (x2 : Int32) : mSt := if x2 = (-1) then (σ) else (if ((mo_ai σ 12 x1.toNatClampNeg ((σ.2.2.1 12 x1.toNatClampNeg) + (σ.2.2.1 12 x2.toNatClampNeg))).2.2.1 12 x1.toNatClampNeg) ≤ 100000 then (if ((mo_ai σ 12 x1.toNatClampNeg ((σ.2.2.1 12 x1.toNatClampNeg) + (σ.2.2.1 12 x2.toNatClampNeg))).2.2.1 13 x2.toNatClampNeg) < ((mo_ai σ 12 x1.toNatClampNeg ((σ.2.2.1 12 x1.toNatClampNeg) + (σ.2.2.1 12 x2.toNatClampNeg))).2.2.1 13 x1.toNatClampNeg) then (mo_ai σ 12 x1.toNatClampNeg ((σ.2.2.1 12 x1.toNatClampNeg) + (σ.2.2.1 12 x2.toNatClampNeg))) else (mo_ai (mo_ai σ 12 x1.toNatClampNeg ((σ.2.2.1 12 x1.toNatClampNeg) + (σ.2.2.1 12 x2.toNatClampNeg))) 13 x1.toNatClampNeg (((mo_ai σ 12 x1.toNatClampNeg ((σ.2.2.1 12 x1.toNatClampNeg) + (σ.2.2.1 12 x2.toNatClampNeg))).2.2.1 13 x2.toNatClampNeg) + 1))) else (if ((mo_ai (mo_ai σ 12 x1.toNatClampNeg ((σ.2.2.1 12 x1.toNatClampNeg) + (σ.2.2.1 12 x2.toNatClampNeg))) 12 x1.toNatClampNeg 100000).2.2.1 13 x2.toNatClampNeg) < ((mo_ai (mo_ai σ 12 x1.toNatClampNeg ((σ.2.2.1 12 x1.toNatClampNeg) + (σ.2.2.1 12 x2.toNatClampNeg))) 12 x1.toNatClampNeg 100000).2.2.1 13 x1.toNatClampNeg) then (mo_ai (mo_ai σ 12 x1.toNatClampNeg ((σ.2.2.1 12 x1.toNatClampNeg) + (σ.2.2.1 12 x2.toNatClampNeg))) 12 x1.toNatClampNeg 100000) else (mo_ai (mo_ai (mo_ai σ 12 x1.toNatClampNeg ((σ.2.2.1 12 x1.toNatClampNeg) + (σ.2.2.1 12 x2.toNatClampNeg))) 12 x1.toNatClampNeg 100000) 13 x1.toNatClampNeg (((mo_ai (mo_ai σ 12 x1.toNatClampNeg ((σ.2.2.1 12 x1.toNatClampNeg) + (σ.2.2.1 12 x2.toNatClampNeg))) 12 x1.toNatClampNeg 100000).2.2.1 13 x2.toNatClampNeg) + 1))))
def S_Mo_counts (σ : mSt) (x1 : Int32) (x2 : Int32) : Prop := if x2 = (-1) then (True) else ((vp_in x1 200) ∧ ((vp_in x2 200) ∧ ((vp_in x1 200) ∧ ((vp_in x1 200) ∧ (if ((mo_ai σ 12 x1.toNatClampNeg ((σ.2.2.1 12 x1.toNatClampNeg) + (σ.2.2.1 12 x2.toNatClampNeg))).2.2.1 12 x1.toNatClampNeg) ≤ 100000 then ((vp_in x2 200) ∧ ((vp_in x1 200) ∧ (if ((mo_ai σ 12 x1.toNatClampNeg ((σ.2.2.1 12 x1.toNatClampNeg) + (σ.2.2.1 12 x2.toNatClampNeg))).2.2.1 13 x2.toNatClampNeg) < ((mo_ai σ 12 x1.toNatClampNeg ((σ.2.2.1 12 x1.toNatClampNeg) + (σ.2.2.1 12 x2.toNatClampNeg))).2.2.1 13 x1.toNatClampNeg) then (True) else ((vp_in x2 200) ∧ ((vp_in x1 200) ∧ (True)))))) else ((vp_in x1 200) ∧ ((vp_in x2 200) ∧ ((vp_in x1 200) ∧ (if ((mo_ai (mo_ai σ 12 x1.toNatClampNeg ((σ.2.2.1 12 x1.toNatClampNeg) + (σ.2.2.1 12 x2.toNatClampNeg))) 12 x1.toNatClampNeg 100000).2.2.1 13 x2.toNatClampNeg) < ((mo_ai (mo_ai σ 12 x1.toNatClampNeg ((σ.2.2.1 12 x1.toNatClampNeg) + (σ.2.2.1 12 x2.toNatClampNeg))) 12 x1.toNatClampNeg 100000).2.2.1 13 x1.toNatClampNeg) then (True) else ((vp_in x2 200) ∧ ((vp_in x1 200) ∧ (True))))))))))))
set_option maxRecDepth 100000 in
set_option maxHeartbeats 4000000 in
theorem mc_Mo_counts (l : Launch) (D : va_G) (cs : Nat → ClassId) (B dE mo : Nat) (ad : Nat → Nat) (σ : mSt) (x1 : Int32) (x2 : Int32) (hS : S_Mo_counts σ x1 x2) : mMet l y_Mo_counts (Cond.code y_Mo_counts c_Mo_counts 3 none) ({ frames := 0, cells := 0, slots := 0, locals := 0 } : Room) D cs B dE mo ad [.ref mo, .int x1, .int x2] σ (fun r σ' => r = none ∧ σ' = F_Mo_counts σ x1 x2) := by
  refine mMet.ofW (by decide) rfl (Nat.le_of_ble_eq_true rfl) (lv0 := [(0, .ref mo), (1, .int x1), (2, .int x2)]) rfl ?_
  intro p e s m args below meth c M0 C hE hr hlocks
  generalize hF : F_Mo_counts σ x1 x2 = Fv
  unfold F_Mo_counts at hF
  unfold S_Mo_counts at hS
  refine g_iload_n C d_Mo_counts_0 rfl ?_
  refine g_iconst (v := (-1)) C d_Mo_counts_1 (by decide) ?_
  refine g_icmp_ne C 6 d_Mo_counts_2 (by decide) (fun hc1 => ?_) (fun hc1 => ?_)
  · rw [if_neg hc1] at hF hS
    refine g_aload_n C d_Mo_counts_6 rfl ?_
    refine m_geta C hE 12 (by decide) (by decide) (by decide) kf_Mo_31 d_Mo_counts_7 ?_
    refine g_iload_n C d_Mo_counts_10 rfl ?_
    refine g_dup2_11 C d_Mo_counts_11 rfl rfl ?_
    obtain ⟨hi2, hS⟩ := hS
    refine m_ald C hE 12 (by decide) (by decide) hi2 d_Mo_counts_12 ?_
    refine g_aload_n C d_Mo_counts_13 rfl ?_
    refine m_geta C hE 12 (by decide) (by decide) (by decide) kf_Mo_31 d_Mo_counts_14 ?_
    refine g_iload_n C d_Mo_counts_17 rfl ?_
    obtain ⟨hi3, hS⟩ := hS
    refine m_ald C hE 12 (by decide) (by decide) hi3 d_Mo_counts_18 ?_
    refine g_iadd C d_Mo_counts_19 ?_
    obtain ⟨hi4, hS⟩ := hS
    refine m_ast C hE 12 (by decide) (by decide) hi4 d_Mo_counts_20 ?_
    refine g_aload_n C d_Mo_counts_21 rfl ?_
    refine m_geta C hE 12 (by decide) (by decide) (by decide) kf_Mo_31 d_Mo_counts_22 ?_
    refine g_iload_n C d_Mo_counts_25 rfl ?_
    obtain ⟨hi5, hS⟩ := hS
    refine m_ald C hE 12 (by decide) (by decide) hi5 d_Mo_counts_26 ?_
    refine g_ldc C kk_Mo_209 d_Mo_counts_27 ?_
    refine g_icmp_le C 40 d_Mo_counts_29 (by decide) (fun hc6 => ?_) (fun hc6 => ?_)
    · rw [if_pos hc6] at hF hS
      refine g_aload_n C d_Mo_counts_40 rfl ?_
      refine m_geta C hE 13 (by decide) (by decide) (by decide) kf_Mo_34 d_Mo_counts_41 ?_
      refine g_iload_n C d_Mo_counts_44 rfl ?_
      obtain ⟨hi7, hS⟩ := hS
      refine m_ald C hE 13 (by decide) (by decide) hi7 d_Mo_counts_45 ?_
      refine g_aload_n C d_Mo_counts_46 rfl ?_
      refine m_geta C hE 13 (by decide) (by decide) (by decide) kf_Mo_34 d_Mo_counts_47 ?_
      refine g_iload_n C d_Mo_counts_50 rfl ?_
      obtain ⟨hi8, hS⟩ := hS
      refine m_ald C hE 13 (by decide) (by decide) hi8 d_Mo_counts_51 ?_
      refine g_icmp_lt C 69 d_Mo_counts_52 (by decide) (fun hc9 => ?_) (fun hc9 => ?_)
      · rw [if_pos hc9] at hF hS
        exact m_vret C hr hlocks d_Mo_counts_69 (by rw [← hF]; exact ⟨rfl, rfl⟩)
      · rw [if_neg hc9] at hF hS
        refine g_aload_n C d_Mo_counts_55 rfl ?_
        refine m_geta C hE 13 (by decide) (by decide) (by decide) kf_Mo_34 d_Mo_counts_56 ?_
        refine g_iload_n C d_Mo_counts_59 rfl ?_
        refine g_aload_n C d_Mo_counts_60 rfl ?_
        refine m_geta C hE 13 (by decide) (by decide) (by decide) kf_Mo_34 d_Mo_counts_61 ?_
        refine g_iload_n C d_Mo_counts_64 rfl ?_
        obtain ⟨hi10, hS⟩ := hS
        refine m_ald C hE 13 (by decide) (by decide) hi10 d_Mo_counts_65 ?_
        refine g_iconst (v := 1) C d_Mo_counts_66 (by decide) ?_
        refine g_iadd C d_Mo_counts_67 ?_
        obtain ⟨hi11, hS⟩ := hS
        refine m_ast C hE 13 (by decide) (by decide) hi11 d_Mo_counts_68 ?_
        exact m_vret C hr hlocks d_Mo_counts_69 (by rw [← hF]; exact ⟨rfl, rfl⟩)
    · rw [if_neg hc6] at hF hS
      refine g_aload_n C d_Mo_counts_32 rfl ?_
      refine m_geta C hE 12 (by decide) (by decide) (by decide) kf_Mo_31 d_Mo_counts_33 ?_
      refine g_iload_n C d_Mo_counts_36 rfl ?_
      refine g_ldc C kk_Mo_209 d_Mo_counts_37 ?_
      obtain ⟨hi12, hS⟩ := hS
      refine m_ast C hE 12 (by decide) (by decide) hi12 d_Mo_counts_39 ?_
      refine g_aload_n C d_Mo_counts_40 rfl ?_
      refine m_geta C hE 13 (by decide) (by decide) (by decide) kf_Mo_34 d_Mo_counts_41 ?_
      refine g_iload_n C d_Mo_counts_44 rfl ?_
      obtain ⟨hi13, hS⟩ := hS
      refine m_ald C hE 13 (by decide) (by decide) hi13 d_Mo_counts_45 ?_
      refine g_aload_n C d_Mo_counts_46 rfl ?_
      refine m_geta C hE 13 (by decide) (by decide) (by decide) kf_Mo_34 d_Mo_counts_47 ?_
      refine g_iload_n C d_Mo_counts_50 rfl ?_
      obtain ⟨hi14, hS⟩ := hS
      refine m_ald C hE 13 (by decide) (by decide) hi14 d_Mo_counts_51 ?_
      refine g_icmp_lt C 69 d_Mo_counts_52 (by decide) (fun hc15 => ?_) (fun hc15 => ?_)
      · rw [if_pos hc15] at hF hS
        exact m_vret C hr hlocks d_Mo_counts_69 (by rw [← hF]; exact ⟨rfl, rfl⟩)
      · rw [if_neg hc15] at hF hS
        refine g_aload_n C d_Mo_counts_55 rfl ?_
        refine m_geta C hE 13 (by decide) (by decide) (by decide) kf_Mo_34 d_Mo_counts_56 ?_
        refine g_iload_n C d_Mo_counts_59 rfl ?_
        refine g_aload_n C d_Mo_counts_60 rfl ?_
        refine m_geta C hE 13 (by decide) (by decide) (by decide) kf_Mo_34 d_Mo_counts_61 ?_
        refine g_iload_n C d_Mo_counts_64 rfl ?_
        obtain ⟨hi16, hS⟩ := hS
        refine m_ald C hE 13 (by decide) (by decide) hi16 d_Mo_counts_65 ?_
        refine g_iconst (v := 1) C d_Mo_counts_66 (by decide) ?_
        refine g_iadd C d_Mo_counts_67 ?_
        obtain ⟨hi17, hS⟩ := hS
        refine m_ast C hE 13 (by decide) (by decide) hi17 d_Mo_counts_68 ?_
        exact m_vret C hr hlocks d_Mo_counts_69 (by rw [← hF]; exact ⟨rfl, rfl⟩)
  · rw [if_pos hc1] at hF hS
    exact m_vret C hr hlocks d_Mo_counts_5 (by rw [← hF]; exact ⟨rfl, rfl⟩)
def F_Mo_add (σ : mSt) (x1 : Int32) (x2 : Int32) (x3 : Int32) (x4 : Int32) (x5 : Int32) : Int32 × mSt := if x2 = 0 then (if ((mo_si σ 4 1).1 4) = 0 then (mbind (F_Mo_counts (mo_ai (mo_ai (mo_ai (mo_ai (mo_ai (mo_ai (mo_ai (mo_ai (mo_ai (mo_si (mo_si σ 4 1) 0 (((mo_si σ 4 1).1 0) + 1)) 5 ((mo_si σ 4 1).1 0).toNatClampNeg x1) 9 ((mo_si σ 4 1).1 0).toNatClampNeg x3) 10 ((mo_si σ 4 1).1 0).toNatClampNeg x4) 11 ((mo_si σ 4 1).1 0).toNatClampNeg x5) 6 ((mo_si σ 4 1).1 0).toNatClampNeg 0) 7 ((mo_si σ 4 1).1 0).toNatClampNeg 0) 8 ((mo_si σ 4 1).1 0).toNatClampNeg 0) 12 ((mo_si σ 4 1).1 0).toNatClampNeg 1) 13 ((mo_si σ 4 1).1 0).toNatClampNeg 1) ((mo_si σ 4 1).1 0) x3) (fun w47 => mbind (F_Mo_counts w47 ((mo_si σ 4 1).1 0) x4) (fun w49 => mbind (F_Mo_counts w49 ((mo_si σ 4 1).1 0) x5) (fun w51 => ((mo_si σ 4 1).1 0, mo_ai w51 15 ((mo_si σ 4 1).1 0).toNatClampNeg 0))))) else ((0, mo_si σ 4 1))) else (if (σ.1 0) = 200 then (if ((mo_si σ 4 2).1 4) = 0 then (mbind (F_Mo_counts (mo_ai (mo_ai (mo_ai (mo_ai (mo_ai (mo_ai (mo_ai (mo_ai (mo_ai (mo_si (mo_si σ 4 2) 0 (((mo_si σ 4 2).1 0) + 1)) 5 ((mo_si σ 4 2).1 0).toNatClampNeg x1) 9 ((mo_si σ 4 2).1 0).toNatClampNeg x3) 10 ((mo_si σ 4 2).1 0).toNatClampNeg x4) 11 ((mo_si σ 4 2).1 0).toNatClampNeg x5) 6 ((mo_si σ 4 2).1 0).toNatClampNeg 0) 7 ((mo_si σ 4 2).1 0).toNatClampNeg 0) 8 ((mo_si σ 4 2).1 0).toNatClampNeg 0) 12 ((mo_si σ 4 2).1 0).toNatClampNeg 1) 13 ((mo_si σ 4 2).1 0).toNatClampNeg 1) ((mo_si σ 4 2).1 0) x3) (fun w30 => mbind (F_Mo_counts w30 ((mo_si σ 4 2).1 0) x4) (fun w32 => mbind (F_Mo_counts w32 ((mo_si σ 4 2).1 0) x5) (fun w34 => ((mo_si σ 4 2).1 0, mo_ai w34 15 ((mo_si σ 4 2).1 0).toNatClampNeg 0))))) else ((0, mo_si σ 4 2))) else (if ((mo_si σ 4 0).1 4) = 0 then (mbind (F_Mo_counts (mo_ai (mo_ai (mo_ai (mo_ai (mo_ai (mo_ai (mo_ai (mo_ai (mo_ai (mo_si (mo_si σ 4 0) 0 (((mo_si σ 4 0).1 0) + 1)) 5 ((mo_si σ 4 0).1 0).toNatClampNeg x1) 9 ((mo_si σ 4 0).1 0).toNatClampNeg x3) 10 ((mo_si σ 4 0).1 0).toNatClampNeg x4) 11 ((mo_si σ 4 0).1 0).toNatClampNeg x5) 6 ((mo_si σ 4 0).1 0).toNatClampNeg 0) 7 ((mo_si σ 4 0).1 0).toNatClampNeg 0) 8 ((mo_si σ 4 0).1 0).toNatClampNeg 0) 12 ((mo_si σ 4 0).1 0).toNatClampNeg 1) 13 ((mo_si σ 4 0).1 0).toNatClampNeg 1) ((mo_si σ 4 0).1 0) x3) (fun w13 => mbind (F_Mo_counts w13 ((mo_si σ 4 0).1 0) x4) (fun w15 => mbind (F_Mo_counts w15 ((mo_si σ 4 0).1 0) x5) (fun w17 => ((mo_si σ 4 0).1 0, mo_ai w17 15 ((mo_si σ 4 0).1 0).toNatClampNeg 0))))) else ((0, mo_si σ 4 0))))
def S_Mo_add (σ : mSt) (x1 : Int32) (x2 : Int32) (x3 : Int32) (x4 : Int32) (x5 : Int32) : Prop := if x2 = 0 then (if ((mo_si σ 4 1).1 4) = 0 then ((vp_in ((mo_si σ 4 1).1 0) 200) ∧ ((vp_in ((mo_si σ 4 1).1 0) 200) ∧ ((vp_in ((mo_si σ 4 1).1 0) 200) ∧ ((vp_in ((mo_si σ 4 1).1 0) 200) ∧ ((vp_in ((mo_si σ 4 1).1 0) 200) ∧ ((vp_in ((mo_si σ 4 1).1 0) 200) ∧ ((vp_in ((mo_si σ 4 1).1 0) 200) ∧ ((vp_in ((mo_si σ 4 1).1 0) 200) ∧ ((vp_in ((mo_si σ 4 1).1 0) 200) ∧ ((S_Mo_counts (mo_ai (mo_ai (mo_ai (mo_ai (mo_ai (mo_ai (mo_ai (mo_ai (mo_ai (mo_si (mo_si σ 4 1) 0 (((mo_si σ 4 1).1 0) + 1)) 5 ((mo_si σ 4 1).1 0).toNatClampNeg x1) 9 ((mo_si σ 4 1).1 0).toNatClampNeg x3) 10 ((mo_si σ 4 1).1 0).toNatClampNeg x4) 11 ((mo_si σ 4 1).1 0).toNatClampNeg x5) 6 ((mo_si σ 4 1).1 0).toNatClampNeg 0) 7 ((mo_si σ 4 1).1 0).toNatClampNeg 0) 8 ((mo_si σ 4 1).1 0).toNatClampNeg 0) 12 ((mo_si σ 4 1).1 0).toNatClampNeg 1) 13 ((mo_si σ 4 1).1 0).toNatClampNeg 1) ((mo_si σ 4 1).1 0) x3) ∧ (mbind (F_Mo_counts (mo_ai (mo_ai (mo_ai (mo_ai (mo_ai (mo_ai (mo_ai (mo_ai (mo_ai (mo_si (mo_si σ 4 1) 0 (((mo_si σ 4 1).1 0) + 1)) 5 ((mo_si σ 4 1).1 0).toNatClampNeg x1) 9 ((mo_si σ 4 1).1 0).toNatClampNeg x3) 10 ((mo_si σ 4 1).1 0).toNatClampNeg x4) 11 ((mo_si σ 4 1).1 0).toNatClampNeg x5) 6 ((mo_si σ 4 1).1 0).toNatClampNeg 0) 7 ((mo_si σ 4 1).1 0).toNatClampNeg 0) 8 ((mo_si σ 4 1).1 0).toNatClampNeg 0) 12 ((mo_si σ 4 1).1 0).toNatClampNeg 1) 13 ((mo_si σ 4 1).1 0).toNatClampNeg 1) ((mo_si σ 4 1).1 0) x3) (fun w47 => (S_Mo_counts w47 ((mo_si σ 4 1).1 0) x4) ∧ (mbind (F_Mo_counts w47 ((mo_si σ 4 1).1 0) x4) (fun w49 => (S_Mo_counts w49 ((mo_si σ 4 1).1 0) x5) ∧ (mbind (F_Mo_counts w49 ((mo_si σ 4 1).1 0) x5) (fun w51 => (vp_in ((mo_si σ 4 1).1 0) 200) ∧ (True))))))))))))))))) else (True)) else (if (σ.1 0) = 200 then (if ((mo_si σ 4 2).1 4) = 0 then ((vp_in ((mo_si σ 4 2).1 0) 200) ∧ ((vp_in ((mo_si σ 4 2).1 0) 200) ∧ ((vp_in ((mo_si σ 4 2).1 0) 200) ∧ ((vp_in ((mo_si σ 4 2).1 0) 200) ∧ ((vp_in ((mo_si σ 4 2).1 0) 200) ∧ ((vp_in ((mo_si σ 4 2).1 0) 200) ∧ ((vp_in ((mo_si σ 4 2).1 0) 200) ∧ ((vp_in ((mo_si σ 4 2).1 0) 200) ∧ ((vp_in ((mo_si σ 4 2).1 0) 200) ∧ ((S_Mo_counts (mo_ai (mo_ai (mo_ai (mo_ai (mo_ai (mo_ai (mo_ai (mo_ai (mo_ai (mo_si (mo_si σ 4 2) 0 (((mo_si σ 4 2).1 0) + 1)) 5 ((mo_si σ 4 2).1 0).toNatClampNeg x1) 9 ((mo_si σ 4 2).1 0).toNatClampNeg x3) 10 ((mo_si σ 4 2).1 0).toNatClampNeg x4) 11 ((mo_si σ 4 2).1 0).toNatClampNeg x5) 6 ((mo_si σ 4 2).1 0).toNatClampNeg 0) 7 ((mo_si σ 4 2).1 0).toNatClampNeg 0) 8 ((mo_si σ 4 2).1 0).toNatClampNeg 0) 12 ((mo_si σ 4 2).1 0).toNatClampNeg 1) 13 ((mo_si σ 4 2).1 0).toNatClampNeg 1) ((mo_si σ 4 2).1 0) x3) ∧ (mbind (F_Mo_counts (mo_ai (mo_ai (mo_ai (mo_ai (mo_ai (mo_ai (mo_ai (mo_ai (mo_ai (mo_si (mo_si σ 4 2) 0 (((mo_si σ 4 2).1 0) + 1)) 5 ((mo_si σ 4 2).1 0).toNatClampNeg x1) 9 ((mo_si σ 4 2).1 0).toNatClampNeg x3) 10 ((mo_si σ 4 2).1 0).toNatClampNeg x4) 11 ((mo_si σ 4 2).1 0).toNatClampNeg x5) 6 ((mo_si σ 4 2).1 0).toNatClampNeg 0) 7 ((mo_si σ 4 2).1 0).toNatClampNeg 0) 8 ((mo_si σ 4 2).1 0).toNatClampNeg 0) 12 ((mo_si σ 4 2).1 0).toNatClampNeg 1) 13 ((mo_si σ 4 2).1 0).toNatClampNeg 1) ((mo_si σ 4 2).1 0) x3) (fun w30 => (S_Mo_counts w30 ((mo_si σ 4 2).1 0) x4) ∧ (mbind (F_Mo_counts w30 ((mo_si σ 4 2).1 0) x4) (fun w32 => (S_Mo_counts w32 ((mo_si σ 4 2).1 0) x5) ∧ (mbind (F_Mo_counts w32 ((mo_si σ 4 2).1 0) x5) (fun w34 => (vp_in ((mo_si σ 4 2).1 0) 200) ∧ (True))))))))))))))))) else (True)) else (if ((mo_si σ 4 0).1 4) = 0 then ((vp_in ((mo_si σ 4 0).1 0) 200) ∧ ((vp_in ((mo_si σ 4 0).1 0) 200) ∧ ((vp_in ((mo_si σ 4 0).1 0) 200) ∧ ((vp_in ((mo_si σ 4 0).1 0) 200) ∧ ((vp_in ((mo_si σ 4 0).1 0) 200) ∧ ((vp_in ((mo_si σ 4 0).1 0) 200) ∧ ((vp_in ((mo_si σ 4 0).1 0) 200) ∧ ((vp_in ((mo_si σ 4 0).1 0) 200) ∧ ((vp_in ((mo_si σ 4 0).1 0) 200) ∧ ((S_Mo_counts (mo_ai (mo_ai (mo_ai (mo_ai (mo_ai (mo_ai (mo_ai (mo_ai (mo_ai (mo_si (mo_si σ 4 0) 0 (((mo_si σ 4 0).1 0) + 1)) 5 ((mo_si σ 4 0).1 0).toNatClampNeg x1) 9 ((mo_si σ 4 0).1 0).toNatClampNeg x3) 10 ((mo_si σ 4 0).1 0).toNatClampNeg x4) 11 ((mo_si σ 4 0).1 0).toNatClampNeg x5) 6 ((mo_si σ 4 0).1 0).toNatClampNeg 0) 7 ((mo_si σ 4 0).1 0).toNatClampNeg 0) 8 ((mo_si σ 4 0).1 0).toNatClampNeg 0) 12 ((mo_si σ 4 0).1 0).toNatClampNeg 1) 13 ((mo_si σ 4 0).1 0).toNatClampNeg 1) ((mo_si σ 4 0).1 0) x3) ∧ (mbind (F_Mo_counts (mo_ai (mo_ai (mo_ai (mo_ai (mo_ai (mo_ai (mo_ai (mo_ai (mo_ai (mo_si (mo_si σ 4 0) 0 (((mo_si σ 4 0).1 0) + 1)) 5 ((mo_si σ 4 0).1 0).toNatClampNeg x1) 9 ((mo_si σ 4 0).1 0).toNatClampNeg x3) 10 ((mo_si σ 4 0).1 0).toNatClampNeg x4) 11 ((mo_si σ 4 0).1 0).toNatClampNeg x5) 6 ((mo_si σ 4 0).1 0).toNatClampNeg 0) 7 ((mo_si σ 4 0).1 0).toNatClampNeg 0) 8 ((mo_si σ 4 0).1 0).toNatClampNeg 0) 12 ((mo_si σ 4 0).1 0).toNatClampNeg 1) 13 ((mo_si σ 4 0).1 0).toNatClampNeg 1) ((mo_si σ 4 0).1 0) x3) (fun w13 => (S_Mo_counts w13 ((mo_si σ 4 0).1 0) x4) ∧ (mbind (F_Mo_counts w13 ((mo_si σ 4 0).1 0) x4) (fun w15 => (S_Mo_counts w15 ((mo_si σ 4 0).1 0) x5) ∧ (mbind (F_Mo_counts w15 ((mo_si σ 4 0).1 0) x5) (fun w17 => (vp_in ((mo_si σ 4 0).1 0) 200) ∧ (True))))))))))))))))) else (True)))
set_option maxRecDepth 100000 in
set_option maxHeartbeats 4000000 in
theorem mc_Mo_add (l : Launch) (D : va_G) (cs : Nat → ClassId) (B dE mo : Nat) (ad : Nat → Nat) (σ : mSt) (x1 : Int32) (x2 : Int32) (x3 : Int32) (x4 : Int32) (x5 : Int32) (hS : S_Mo_add σ x1 x2 x3 x4 x5) : mMet l y_Mo_add (Cond.code y_Mo_add c_Mo_add 7 (some .int)) ({ frames := 1, cells := 0, slots := 0, locals := 22 } : Room) D cs B dE mo ad [.ref mo, .int x1, .int x2, .int x3, .int x4, .int x5] σ (fun r σ' => r = some (.int (F_Mo_add σ x1 x2 x3 x4 x5).1) ∧ σ' = (F_Mo_add σ x1 x2 x3 x4 x5).2) := by
  refine mMet.ofW (by decide) rfl (Nat.le_of_ble_eq_true rfl) (lv0 := [(0, .ref mo), (1, .int x1), (2, .int x2), (3, .int x3), (4, .int x4), (5, .int x5)]) rfl ?_
  intro p e s m args below meth c M0 C hE hr hlocks
  generalize hF : F_Mo_add σ x1 x2 x3 x4 x5 = Fv
  unfold F_Mo_add at hF
  unfold S_Mo_add at hS
  refine g_aload_n C d_Mo_add_0 rfl ?_
  refine g_iload_n C d_Mo_add_1 rfl ?_
  refine g_if_ne C 9 d_Mo_add_2 (by decide) (fun hc1 => ?_) (fun hc1 => ?_)
  · rw [if_neg hc1] at hF hS
    refine g_aload_n C d_Mo_add_9 rfl ?_
    refine m_geti C hE 0 (by decide) (by decide) kf_Mo_146 d_Mo_add_10 ?_
    refine g_sipush (v := 200) C d_Mo_add_13 (by decide) ?_
    refine g_icmp_ne C 23 d_Mo_add_16 (by decide) (fun hc2 => ?_) (fun hc2 => ?_)
    · rw [if_neg hc2] at hF hS
      refine g_iconst (v := 0) C d_Mo_add_23 (by decide) ?_
      refine m_puti C hE 4 (by decide) (by decide) rfl rfl kf_Mo_142 d_Mo_add_24 ?_
      refine g_aload_n C d_Mo_add_27 rfl ?_
      refine m_geti C hE 4 (by decide) (by decide) kf_Mo_142 d_Mo_add_28 ?_
      refine g_if_eq C 36 d_Mo_add_31 (by decide) (fun hc3 => ?_) (fun hc3 => ?_)
      · rw [if_pos hc3] at hF hS
        refine g_aload_n C d_Mo_add_36 rfl ?_
        refine m_geti C hE 0 (by decide) (by decide) kf_Mo_146 d_Mo_add_37 ?_
        refine g_istore (lv' := [(6, .int ((mo_si σ 4 0).1 0)), (0, .ref mo), (1, .int x1), (2, .int x2), (3, .int x3), (4, .int x4), (5, .int x5)]) C d_Mo_add_40 (by decide) rfl ?_
        refine g_aload_n C d_Mo_add_42 rfl ?_
        refine g_dup C d_Mo_add_43 rfl ?_
        refine m_geti C hE 0 (by decide) (by decide) kf_Mo_146 d_Mo_add_44 ?_
        refine g_iconst (v := 1) C d_Mo_add_47 (by decide) ?_
        refine g_iadd C d_Mo_add_48 ?_
        refine m_puti C hE 0 (by decide) (by decide) rfl rfl kf_Mo_146 d_Mo_add_49 ?_
        refine g_aload_n C d_Mo_add_52 rfl ?_
        refine m_geta C hE 5 (by decide) (by decide) (by decide) kf_Mo_7 d_Mo_add_53 ?_
        refine g_iload C d_Mo_add_56 rfl ?_
        refine g_iload_n C d_Mo_add_58 rfl ?_
        obtain ⟨hi4, hS⟩ := hS
        refine m_ast C hE 5 (by decide) (by decide) hi4 d_Mo_add_59 ?_
        refine g_aload_n C d_Mo_add_60 rfl ?_
        refine m_geta C hE 9 (by decide) (by decide) (by decide) kf_Mo_22 d_Mo_add_61 ?_
        refine g_iload C d_Mo_add_64 rfl ?_
        refine g_iload_n C d_Mo_add_66 rfl ?_
        obtain ⟨hi5, hS⟩ := hS
        refine m_ast C hE 9 (by decide) (by decide) hi5 d_Mo_add_67 ?_
        refine g_aload_n C d_Mo_add_68 rfl ?_
        refine m_geta C hE 10 (by decide) (by decide) (by decide) kf_Mo_25 d_Mo_add_69 ?_
        refine g_iload C d_Mo_add_72 rfl ?_
        refine g_iload C d_Mo_add_74 rfl ?_
        obtain ⟨hi6, hS⟩ := hS
        refine m_ast C hE 10 (by decide) (by decide) hi6 d_Mo_add_76 ?_
        refine g_aload_n C d_Mo_add_77 rfl ?_
        refine m_geta C hE 11 (by decide) (by decide) (by decide) kf_Mo_28 d_Mo_add_78 ?_
        refine g_iload C d_Mo_add_81 rfl ?_
        refine g_iload C d_Mo_add_83 rfl ?_
        obtain ⟨hi7, hS⟩ := hS
        refine m_ast C hE 11 (by decide) (by decide) hi7 d_Mo_add_85 ?_
        refine g_aload_n C d_Mo_add_86 rfl ?_
        refine m_geta C hE 6 (by decide) (by decide) (by decide) kf_Mo_13 d_Mo_add_87 ?_
        refine g_iload C d_Mo_add_90 rfl ?_
        refine g_iconst (v := 0) C d_Mo_add_92 (by decide) ?_
        obtain ⟨hi8, hS⟩ := hS
        refine m_ast C hE 6 (by decide) (by decide) hi8 d_Mo_add_93 ?_
        refine g_aload_n C d_Mo_add_94 rfl ?_
        refine m_geta C hE 7 (by decide) (by decide) (by decide) kf_Mo_16 d_Mo_add_95 ?_
        refine g_iload C d_Mo_add_98 rfl ?_
        refine g_iconst (v := 0) C d_Mo_add_100 (by decide) ?_
        obtain ⟨hi9, hS⟩ := hS
        refine m_ast C hE 7 (by decide) (by decide) hi9 d_Mo_add_101 ?_
        refine g_aload_n C d_Mo_add_102 rfl ?_
        refine m_geta C hE 8 (by decide) (by decide) (by decide) kf_Mo_19 d_Mo_add_103 ?_
        refine g_iload C d_Mo_add_106 rfl ?_
        refine g_iconst (v := 0) C d_Mo_add_108 (by decide) ?_
        obtain ⟨hi10, hS⟩ := hS
        refine m_ast C hE 8 (by decide) (by decide) hi10 d_Mo_add_109 ?_
        refine g_aload_n C d_Mo_add_110 rfl ?_
        refine m_geta C hE 12 (by decide) (by decide) (by decide) kf_Mo_31 d_Mo_add_111 ?_
        refine g_iload C d_Mo_add_114 rfl ?_
        refine g_iconst (v := 1) C d_Mo_add_116 (by decide) ?_
        obtain ⟨hi11, hS⟩ := hS
        refine m_ast C hE 12 (by decide) (by decide) hi11 d_Mo_add_117 ?_
        refine g_aload_n C d_Mo_add_118 rfl ?_
        refine m_geta C hE 13 (by decide) (by decide) (by decide) kf_Mo_34 d_Mo_add_119 ?_
        refine g_iload C d_Mo_add_122 rfl ?_
        refine g_iconst (v := 1) C d_Mo_add_124 (by decide) ?_
        obtain ⟨hi12, hS⟩ := hS
        refine m_ast C hE 13 (by decide) (by decide) hi12 d_Mo_add_125 ?_
        refine g_aload_n C d_Mo_add_126 rfl ?_
        refine g_iload C d_Mo_add_127 rfl ?_
        refine g_iload_n C d_Mo_add_129 rfl ?_
        obtain ⟨hs14, hS⟩ := hS
        refine m_callV (n := 2) (av := [.int ((mo_si σ 4 0).1 0), .int x3]) (rest := []) C hE (mc_Mo_counts l D cs B dE mo ad _ _ _ hs14) km_Mo_205 kv_Mo_counts kl_Mo_counts kd_Mo_counts ki_Mo ⟨rfl, by decide, by decide, by decide⟩ rfl ⟨rfl, rfl⟩ (by decide) (by decide) d_Mo_add_130 (Nat.le_of_ble_eq_true rfl) _ rfl (fun v1 σ1 hv => ?_)
        obtain ⟨rfl, rfl⟩ := hv
        rw [mbind_eq] at hF hS
        generalize F_Mo_counts (mo_ai (mo_ai (mo_ai (mo_ai (mo_ai (mo_ai (mo_ai (mo_ai (mo_ai (mo_si (mo_si σ 4 0) 0 (((mo_si σ 4 0).1 0) + 1)) 5 ((mo_si σ 4 0).1 0).toNatClampNeg x1) 9 ((mo_si σ 4 0).1 0).toNatClampNeg x3) 10 ((mo_si σ 4 0).1 0).toNatClampNeg x4) 11 ((mo_si σ 4 0).1 0).toNatClampNeg x5) 6 ((mo_si σ 4 0).1 0).toNatClampNeg 0) 7 ((mo_si σ 4 0).1 0).toNatClampNeg 0) 8 ((mo_si σ 4 0).1 0).toNatClampNeg 0) 12 ((mo_si σ 4 0).1 0).toNatClampNeg 1) 13 ((mo_si σ 4 0).1 0).toNatClampNeg 1) ((mo_si σ 4 0).1 0) x3 = w13 at hF hS ⊢
        refine GW.eqs (st' := []) rfl ?_
        refine g_aload_n C d_Mo_add_133 rfl ?_
        refine g_iload C d_Mo_add_134 rfl ?_
        refine g_iload C d_Mo_add_136 rfl ?_
        obtain ⟨hs16, hS⟩ := hS
        refine m_callV (n := 2) (av := [.int ((mo_si σ 4 0).1 0), .int x4]) (rest := []) C hE (mc_Mo_counts l D cs B dE mo ad _ _ _ hs16) km_Mo_205 kv_Mo_counts kl_Mo_counts kd_Mo_counts ki_Mo ⟨rfl, by decide, by decide, by decide⟩ rfl ⟨rfl, rfl⟩ (by decide) (by decide) d_Mo_add_138 (Nat.le_of_ble_eq_true rfl) _ rfl (fun v1 σ1 hv => ?_)
        obtain ⟨rfl, rfl⟩ := hv
        rw [mbind_eq] at hF hS
        generalize F_Mo_counts w13 ((mo_si σ 4 0).1 0) x4 = w15 at hF hS ⊢
        refine GW.eqs (st' := []) rfl ?_
        refine g_aload_n C d_Mo_add_141 rfl ?_
        refine g_iload C d_Mo_add_142 rfl ?_
        refine g_iload C d_Mo_add_144 rfl ?_
        obtain ⟨hs18, hS⟩ := hS
        refine m_callV (n := 2) (av := [.int ((mo_si σ 4 0).1 0), .int x5]) (rest := []) C hE (mc_Mo_counts l D cs B dE mo ad _ _ _ hs18) km_Mo_205 kv_Mo_counts kl_Mo_counts kd_Mo_counts ki_Mo ⟨rfl, by decide, by decide, by decide⟩ rfl ⟨rfl, rfl⟩ (by decide) (by decide) d_Mo_add_146 (Nat.le_of_ble_eq_true rfl) _ rfl (fun v1 σ1 hv => ?_)
        obtain ⟨rfl, rfl⟩ := hv
        rw [mbind_eq] at hF hS
        generalize F_Mo_counts w15 ((mo_si σ 4 0).1 0) x5 = w17 at hF hS ⊢
        refine GW.eqs (st' := []) rfl ?_
        refine g_aload_n C d_Mo_add_149 rfl ?_
        refine m_geta C hE 15 (by decide) (by decide) (by decide) kf_Mo_40 d_Mo_add_150 ?_
        refine g_iload C d_Mo_add_153 rfl ?_
        refine g_iconst (v := 0) C d_Mo_add_155 (by decide) ?_
        obtain ⟨hi19, hS⟩ := hS
        refine m_ast C hE 15 (by decide) (by decide) hi19 d_Mo_add_156 ?_
        refine g_iload C d_Mo_add_157 rfl ?_
        exact m_iret C hr hlocks d_Mo_add_159 (by rw [← hF]; exact ⟨rfl, rfl⟩)
      · rw [if_neg hc3] at hF hS
        refine g_iconst (v := 0) C d_Mo_add_34 (by decide) ?_
        exact m_iret C hr hlocks d_Mo_add_35 (by rw [← hF]; exact ⟨rfl, rfl⟩)
    · rw [if_pos hc2] at hF hS
      refine g_iconst (v := 2) C d_Mo_add_19 (by decide) ?_
      refine g_goto C 24 d_Mo_add_20 (by decide) ?_
      refine m_puti C hE 4 (by decide) (by decide) rfl rfl kf_Mo_142 d_Mo_add_24 ?_
      refine g_aload_n C d_Mo_add_27 rfl ?_
      refine m_geti C hE 4 (by decide) (by decide) kf_Mo_142 d_Mo_add_28 ?_
      refine g_if_eq C 36 d_Mo_add_31 (by decide) (fun hc20 => ?_) (fun hc20 => ?_)
      · rw [if_pos hc20] at hF hS
        refine g_aload_n C d_Mo_add_36 rfl ?_
        refine m_geti C hE 0 (by decide) (by decide) kf_Mo_146 d_Mo_add_37 ?_
        refine g_istore (lv' := [(6, .int ((mo_si σ 4 2).1 0)), (0, .ref mo), (1, .int x1), (2, .int x2), (3, .int x3), (4, .int x4), (5, .int x5)]) C d_Mo_add_40 (by decide) rfl ?_
        refine g_aload_n C d_Mo_add_42 rfl ?_
        refine g_dup C d_Mo_add_43 rfl ?_
        refine m_geti C hE 0 (by decide) (by decide) kf_Mo_146 d_Mo_add_44 ?_
        refine g_iconst (v := 1) C d_Mo_add_47 (by decide) ?_
        refine g_iadd C d_Mo_add_48 ?_
        refine m_puti C hE 0 (by decide) (by decide) rfl rfl kf_Mo_146 d_Mo_add_49 ?_
        refine g_aload_n C d_Mo_add_52 rfl ?_
        refine m_geta C hE 5 (by decide) (by decide) (by decide) kf_Mo_7 d_Mo_add_53 ?_
        refine g_iload C d_Mo_add_56 rfl ?_
        refine g_iload_n C d_Mo_add_58 rfl ?_
        obtain ⟨hi21, hS⟩ := hS
        refine m_ast C hE 5 (by decide) (by decide) hi21 d_Mo_add_59 ?_
        refine g_aload_n C d_Mo_add_60 rfl ?_
        refine m_geta C hE 9 (by decide) (by decide) (by decide) kf_Mo_22 d_Mo_add_61 ?_
        refine g_iload C d_Mo_add_64 rfl ?_
        refine g_iload_n C d_Mo_add_66 rfl ?_
        obtain ⟨hi22, hS⟩ := hS
        refine m_ast C hE 9 (by decide) (by decide) hi22 d_Mo_add_67 ?_
        refine g_aload_n C d_Mo_add_68 rfl ?_
        refine m_geta C hE 10 (by decide) (by decide) (by decide) kf_Mo_25 d_Mo_add_69 ?_
        refine g_iload C d_Mo_add_72 rfl ?_
        refine g_iload C d_Mo_add_74 rfl ?_
        obtain ⟨hi23, hS⟩ := hS
        refine m_ast C hE 10 (by decide) (by decide) hi23 d_Mo_add_76 ?_
        refine g_aload_n C d_Mo_add_77 rfl ?_
        refine m_geta C hE 11 (by decide) (by decide) (by decide) kf_Mo_28 d_Mo_add_78 ?_
        refine g_iload C d_Mo_add_81 rfl ?_
        refine g_iload C d_Mo_add_83 rfl ?_
        obtain ⟨hi24, hS⟩ := hS
        refine m_ast C hE 11 (by decide) (by decide) hi24 d_Mo_add_85 ?_
        refine g_aload_n C d_Mo_add_86 rfl ?_
        refine m_geta C hE 6 (by decide) (by decide) (by decide) kf_Mo_13 d_Mo_add_87 ?_
        refine g_iload C d_Mo_add_90 rfl ?_
        refine g_iconst (v := 0) C d_Mo_add_92 (by decide) ?_
        obtain ⟨hi25, hS⟩ := hS
        refine m_ast C hE 6 (by decide) (by decide) hi25 d_Mo_add_93 ?_
        refine g_aload_n C d_Mo_add_94 rfl ?_
        refine m_geta C hE 7 (by decide) (by decide) (by decide) kf_Mo_16 d_Mo_add_95 ?_
        refine g_iload C d_Mo_add_98 rfl ?_
        refine g_iconst (v := 0) C d_Mo_add_100 (by decide) ?_
        obtain ⟨hi26, hS⟩ := hS
        refine m_ast C hE 7 (by decide) (by decide) hi26 d_Mo_add_101 ?_
        refine g_aload_n C d_Mo_add_102 rfl ?_
        refine m_geta C hE 8 (by decide) (by decide) (by decide) kf_Mo_19 d_Mo_add_103 ?_
        refine g_iload C d_Mo_add_106 rfl ?_
        refine g_iconst (v := 0) C d_Mo_add_108 (by decide) ?_
        obtain ⟨hi27, hS⟩ := hS
        refine m_ast C hE 8 (by decide) (by decide) hi27 d_Mo_add_109 ?_
        refine g_aload_n C d_Mo_add_110 rfl ?_
        refine m_geta C hE 12 (by decide) (by decide) (by decide) kf_Mo_31 d_Mo_add_111 ?_
        refine g_iload C d_Mo_add_114 rfl ?_
        refine g_iconst (v := 1) C d_Mo_add_116 (by decide) ?_
        obtain ⟨hi28, hS⟩ := hS
        refine m_ast C hE 12 (by decide) (by decide) hi28 d_Mo_add_117 ?_
        refine g_aload_n C d_Mo_add_118 rfl ?_
        refine m_geta C hE 13 (by decide) (by decide) (by decide) kf_Mo_34 d_Mo_add_119 ?_
        refine g_iload C d_Mo_add_122 rfl ?_
        refine g_iconst (v := 1) C d_Mo_add_124 (by decide) ?_
        obtain ⟨hi29, hS⟩ := hS
        refine m_ast C hE 13 (by decide) (by decide) hi29 d_Mo_add_125 ?_
        refine g_aload_n C d_Mo_add_126 rfl ?_
        refine g_iload C d_Mo_add_127 rfl ?_
        refine g_iload_n C d_Mo_add_129 rfl ?_
        obtain ⟨hs31, hS⟩ := hS
        refine m_callV (n := 2) (av := [.int ((mo_si σ 4 2).1 0), .int x3]) (rest := []) C hE (mc_Mo_counts l D cs B dE mo ad _ _ _ hs31) km_Mo_205 kv_Mo_counts kl_Mo_counts kd_Mo_counts ki_Mo ⟨rfl, by decide, by decide, by decide⟩ rfl ⟨rfl, rfl⟩ (by decide) (by decide) d_Mo_add_130 (Nat.le_of_ble_eq_true rfl) _ rfl (fun v1 σ1 hv => ?_)
        obtain ⟨rfl, rfl⟩ := hv
        rw [mbind_eq] at hF hS
        generalize F_Mo_counts (mo_ai (mo_ai (mo_ai (mo_ai (mo_ai (mo_ai (mo_ai (mo_ai (mo_ai (mo_si (mo_si σ 4 2) 0 (((mo_si σ 4 2).1 0) + 1)) 5 ((mo_si σ 4 2).1 0).toNatClampNeg x1) 9 ((mo_si σ 4 2).1 0).toNatClampNeg x3) 10 ((mo_si σ 4 2).1 0).toNatClampNeg x4) 11 ((mo_si σ 4 2).1 0).toNatClampNeg x5) 6 ((mo_si σ 4 2).1 0).toNatClampNeg 0) 7 ((mo_si σ 4 2).1 0).toNatClampNeg 0) 8 ((mo_si σ 4 2).1 0).toNatClampNeg 0) 12 ((mo_si σ 4 2).1 0).toNatClampNeg 1) 13 ((mo_si σ 4 2).1 0).toNatClampNeg 1) ((mo_si σ 4 2).1 0) x3 = w30 at hF hS ⊢
        refine GW.eqs (st' := []) rfl ?_
        refine g_aload_n C d_Mo_add_133 rfl ?_
        refine g_iload C d_Mo_add_134 rfl ?_
        refine g_iload C d_Mo_add_136 rfl ?_
        obtain ⟨hs33, hS⟩ := hS
        refine m_callV (n := 2) (av := [.int ((mo_si σ 4 2).1 0), .int x4]) (rest := []) C hE (mc_Mo_counts l D cs B dE mo ad _ _ _ hs33) km_Mo_205 kv_Mo_counts kl_Mo_counts kd_Mo_counts ki_Mo ⟨rfl, by decide, by decide, by decide⟩ rfl ⟨rfl, rfl⟩ (by decide) (by decide) d_Mo_add_138 (Nat.le_of_ble_eq_true rfl) _ rfl (fun v1 σ1 hv => ?_)
        obtain ⟨rfl, rfl⟩ := hv
        rw [mbind_eq] at hF hS
        generalize F_Mo_counts w30 ((mo_si σ 4 2).1 0) x4 = w32 at hF hS ⊢
        refine GW.eqs (st' := []) rfl ?_
        refine g_aload_n C d_Mo_add_141 rfl ?_
        refine g_iload C d_Mo_add_142 rfl ?_
        refine g_iload C d_Mo_add_144 rfl ?_
        obtain ⟨hs35, hS⟩ := hS
        refine m_callV (n := 2) (av := [.int ((mo_si σ 4 2).1 0), .int x5]) (rest := []) C hE (mc_Mo_counts l D cs B dE mo ad _ _ _ hs35) km_Mo_205 kv_Mo_counts kl_Mo_counts kd_Mo_counts ki_Mo ⟨rfl, by decide, by decide, by decide⟩ rfl ⟨rfl, rfl⟩ (by decide) (by decide) d_Mo_add_146 (Nat.le_of_ble_eq_true rfl) _ rfl (fun v1 σ1 hv => ?_)
        obtain ⟨rfl, rfl⟩ := hv
        rw [mbind_eq] at hF hS
        generalize F_Mo_counts w32 ((mo_si σ 4 2).1 0) x5 = w34 at hF hS ⊢
        refine GW.eqs (st' := []) rfl ?_
        refine g_aload_n C d_Mo_add_149 rfl ?_
        refine m_geta C hE 15 (by decide) (by decide) (by decide) kf_Mo_40 d_Mo_add_150 ?_
        refine g_iload C d_Mo_add_153 rfl ?_
        refine g_iconst (v := 0) C d_Mo_add_155 (by decide) ?_
        obtain ⟨hi36, hS⟩ := hS
        refine m_ast C hE 15 (by decide) (by decide) hi36 d_Mo_add_156 ?_
        refine g_iload C d_Mo_add_157 rfl ?_
        exact m_iret C hr hlocks d_Mo_add_159 (by rw [← hF]; exact ⟨rfl, rfl⟩)
      · rw [if_neg hc20] at hF hS
        refine g_iconst (v := 0) C d_Mo_add_34 (by decide) ?_
        exact m_iret C hr hlocks d_Mo_add_35 (by rw [← hF]; exact ⟨rfl, rfl⟩)
  · rw [if_pos hc1] at hF hS
    refine g_iconst (v := 1) C d_Mo_add_5 (by decide) ?_
    refine g_goto C 24 d_Mo_add_6 (by decide) ?_
    refine m_puti C hE 4 (by decide) (by decide) rfl rfl kf_Mo_142 d_Mo_add_24 ?_
    refine g_aload_n C d_Mo_add_27 rfl ?_
    refine m_geti C hE 4 (by decide) (by decide) kf_Mo_142 d_Mo_add_28 ?_
    refine g_if_eq C 36 d_Mo_add_31 (by decide) (fun hc37 => ?_) (fun hc37 => ?_)
    · rw [if_pos hc37] at hF hS
      refine g_aload_n C d_Mo_add_36 rfl ?_
      refine m_geti C hE 0 (by decide) (by decide) kf_Mo_146 d_Mo_add_37 ?_
      refine g_istore (lv' := [(6, .int ((mo_si σ 4 1).1 0)), (0, .ref mo), (1, .int x1), (2, .int x2), (3, .int x3), (4, .int x4), (5, .int x5)]) C d_Mo_add_40 (by decide) rfl ?_
      refine g_aload_n C d_Mo_add_42 rfl ?_
      refine g_dup C d_Mo_add_43 rfl ?_
      refine m_geti C hE 0 (by decide) (by decide) kf_Mo_146 d_Mo_add_44 ?_
      refine g_iconst (v := 1) C d_Mo_add_47 (by decide) ?_
      refine g_iadd C d_Mo_add_48 ?_
      refine m_puti C hE 0 (by decide) (by decide) rfl rfl kf_Mo_146 d_Mo_add_49 ?_
      refine g_aload_n C d_Mo_add_52 rfl ?_
      refine m_geta C hE 5 (by decide) (by decide) (by decide) kf_Mo_7 d_Mo_add_53 ?_
      refine g_iload C d_Mo_add_56 rfl ?_
      refine g_iload_n C d_Mo_add_58 rfl ?_
      obtain ⟨hi38, hS⟩ := hS
      refine m_ast C hE 5 (by decide) (by decide) hi38 d_Mo_add_59 ?_
      refine g_aload_n C d_Mo_add_60 rfl ?_
      refine m_geta C hE 9 (by decide) (by decide) (by decide) kf_Mo_22 d_Mo_add_61 ?_
      refine g_iload C d_Mo_add_64 rfl ?_
      refine g_iload_n C d_Mo_add_66 rfl ?_
      obtain ⟨hi39, hS⟩ := hS
      refine m_ast C hE 9 (by decide) (by decide) hi39 d_Mo_add_67 ?_
      refine g_aload_n C d_Mo_add_68 rfl ?_
      refine m_geta C hE 10 (by decide) (by decide) (by decide) kf_Mo_25 d_Mo_add_69 ?_
      refine g_iload C d_Mo_add_72 rfl ?_
      refine g_iload C d_Mo_add_74 rfl ?_
      obtain ⟨hi40, hS⟩ := hS
      refine m_ast C hE 10 (by decide) (by decide) hi40 d_Mo_add_76 ?_
      refine g_aload_n C d_Mo_add_77 rfl ?_
      refine m_geta C hE 11 (by decide) (by decide) (by decide) kf_Mo_28 d_Mo_add_78 ?_
      refine g_iload C d_Mo_add_81 rfl ?_
      refine g_iload C d_Mo_add_83 rfl ?_
      obtain ⟨hi41, hS⟩ := hS
      refine m_ast C hE 11 (by decide) (by decide) hi41 d_Mo_add_85 ?_
      refine g_aload_n C d_Mo_add_86 rfl ?_
      refine m_geta C hE 6 (by decide) (by decide) (by decide) kf_Mo_13 d_Mo_add_87 ?_
      refine g_iload C d_Mo_add_90 rfl ?_
      refine g_iconst (v := 0) C d_Mo_add_92 (by decide) ?_
      obtain ⟨hi42, hS⟩ := hS
      refine m_ast C hE 6 (by decide) (by decide) hi42 d_Mo_add_93 ?_
      refine g_aload_n C d_Mo_add_94 rfl ?_
      refine m_geta C hE 7 (by decide) (by decide) (by decide) kf_Mo_16 d_Mo_add_95 ?_
      refine g_iload C d_Mo_add_98 rfl ?_
      refine g_iconst (v := 0) C d_Mo_add_100 (by decide) ?_
      obtain ⟨hi43, hS⟩ := hS
      refine m_ast C hE 7 (by decide) (by decide) hi43 d_Mo_add_101 ?_
      refine g_aload_n C d_Mo_add_102 rfl ?_
      refine m_geta C hE 8 (by decide) (by decide) (by decide) kf_Mo_19 d_Mo_add_103 ?_
      refine g_iload C d_Mo_add_106 rfl ?_
      refine g_iconst (v := 0) C d_Mo_add_108 (by decide) ?_
      obtain ⟨hi44, hS⟩ := hS
      refine m_ast C hE 8 (by decide) (by decide) hi44 d_Mo_add_109 ?_
      refine g_aload_n C d_Mo_add_110 rfl ?_
      refine m_geta C hE 12 (by decide) (by decide) (by decide) kf_Mo_31 d_Mo_add_111 ?_
      refine g_iload C d_Mo_add_114 rfl ?_
      refine g_iconst (v := 1) C d_Mo_add_116 (by decide) ?_
      obtain ⟨hi45, hS⟩ := hS
      refine m_ast C hE 12 (by decide) (by decide) hi45 d_Mo_add_117 ?_
      refine g_aload_n C d_Mo_add_118 rfl ?_
      refine m_geta C hE 13 (by decide) (by decide) (by decide) kf_Mo_34 d_Mo_add_119 ?_
      refine g_iload C d_Mo_add_122 rfl ?_
      refine g_iconst (v := 1) C d_Mo_add_124 (by decide) ?_
      obtain ⟨hi46, hS⟩ := hS
      refine m_ast C hE 13 (by decide) (by decide) hi46 d_Mo_add_125 ?_
      refine g_aload_n C d_Mo_add_126 rfl ?_
      refine g_iload C d_Mo_add_127 rfl ?_
      refine g_iload_n C d_Mo_add_129 rfl ?_
      obtain ⟨hs48, hS⟩ := hS
      refine m_callV (n := 2) (av := [.int ((mo_si σ 4 1).1 0), .int x3]) (rest := []) C hE (mc_Mo_counts l D cs B dE mo ad _ _ _ hs48) km_Mo_205 kv_Mo_counts kl_Mo_counts kd_Mo_counts ki_Mo ⟨rfl, by decide, by decide, by decide⟩ rfl ⟨rfl, rfl⟩ (by decide) (by decide) d_Mo_add_130 (Nat.le_of_ble_eq_true rfl) _ rfl (fun v1 σ1 hv => ?_)
      obtain ⟨rfl, rfl⟩ := hv
      rw [mbind_eq] at hF hS
      generalize F_Mo_counts (mo_ai (mo_ai (mo_ai (mo_ai (mo_ai (mo_ai (mo_ai (mo_ai (mo_ai (mo_si (mo_si σ 4 1) 0 (((mo_si σ 4 1).1 0) + 1)) 5 ((mo_si σ 4 1).1 0).toNatClampNeg x1) 9 ((mo_si σ 4 1).1 0).toNatClampNeg x3) 10 ((mo_si σ 4 1).1 0).toNatClampNeg x4) 11 ((mo_si σ 4 1).1 0).toNatClampNeg x5) 6 ((mo_si σ 4 1).1 0).toNatClampNeg 0) 7 ((mo_si σ 4 1).1 0).toNatClampNeg 0) 8 ((mo_si σ 4 1).1 0).toNatClampNeg 0) 12 ((mo_si σ 4 1).1 0).toNatClampNeg 1) 13 ((mo_si σ 4 1).1 0).toNatClampNeg 1) ((mo_si σ 4 1).1 0) x3 = w47 at hF hS ⊢
      refine GW.eqs (st' := []) rfl ?_
      refine g_aload_n C d_Mo_add_133 rfl ?_
      refine g_iload C d_Mo_add_134 rfl ?_
      refine g_iload C d_Mo_add_136 rfl ?_
      obtain ⟨hs50, hS⟩ := hS
      refine m_callV (n := 2) (av := [.int ((mo_si σ 4 1).1 0), .int x4]) (rest := []) C hE (mc_Mo_counts l D cs B dE mo ad _ _ _ hs50) km_Mo_205 kv_Mo_counts kl_Mo_counts kd_Mo_counts ki_Mo ⟨rfl, by decide, by decide, by decide⟩ rfl ⟨rfl, rfl⟩ (by decide) (by decide) d_Mo_add_138 (Nat.le_of_ble_eq_true rfl) _ rfl (fun v1 σ1 hv => ?_)
      obtain ⟨rfl, rfl⟩ := hv
      rw [mbind_eq] at hF hS
      generalize F_Mo_counts w47 ((mo_si σ 4 1).1 0) x4 = w49 at hF hS ⊢
      refine GW.eqs (st' := []) rfl ?_
      refine g_aload_n C d_Mo_add_141 rfl ?_
      refine g_iload C d_Mo_add_142 rfl ?_
      refine g_iload C d_Mo_add_144 rfl ?_
      obtain ⟨hs52, hS⟩ := hS
      refine m_callV (n := 2) (av := [.int ((mo_si σ 4 1).1 0), .int x5]) (rest := []) C hE (mc_Mo_counts l D cs B dE mo ad _ _ _ hs52) km_Mo_205 kv_Mo_counts kl_Mo_counts kd_Mo_counts ki_Mo ⟨rfl, by decide, by decide, by decide⟩ rfl ⟨rfl, rfl⟩ (by decide) (by decide) d_Mo_add_146 (Nat.le_of_ble_eq_true rfl) _ rfl (fun v1 σ1 hv => ?_)
      obtain ⟨rfl, rfl⟩ := hv
      rw [mbind_eq] at hF hS
      generalize F_Mo_counts w49 ((mo_si σ 4 1).1 0) x5 = w51 at hF hS ⊢
      refine GW.eqs (st' := []) rfl ?_
      refine g_aload_n C d_Mo_add_149 rfl ?_
      refine m_geta C hE 15 (by decide) (by decide) (by decide) kf_Mo_40 d_Mo_add_150 ?_
      refine g_iload C d_Mo_add_153 rfl ?_
      refine g_iconst (v := 0) C d_Mo_add_155 (by decide) ?_
      obtain ⟨hi53, hS⟩ := hS
      refine m_ast C hE 15 (by decide) (by decide) hi53 d_Mo_add_156 ?_
      refine g_iload C d_Mo_add_157 rfl ?_
      exact m_iret C hr hlocks d_Mo_add_159 (by rw [← hF]; exact ⟨rfl, rfl⟩)
    · rw [if_neg hc37] at hF hS
      refine g_iconst (v := 0) C d_Mo_add_34 (by decide) ?_
      exact m_iret C hr hlocks d_Mo_add_35 (by rw [← hF]; exact ⟨rfl, rfl⟩)
def F_Mo_atom (σ : mSt) (x1 : Int32) (x2 : Int32) : Int32 × mSt := if x1 < 0 then (mbind (F_Mo_add σ x1 0 (-1) (-1) (-1)) (fun w2 => if (w2.2.1 4) = 0 then ((w2.1, mo_ai w2.2 6 w2.1.toNatClampNeg x2)) else ((w2.1, w2.2)))) else (if 3 < x1 then (mbind (F_Mo_add σ x1 0 (-1) (-1) (-1)) (fun w7 => if (w7.2.1 4) = 0 then ((w7.1, mo_ai w7.2 6 w7.1.toNatClampNeg x2)) else ((w7.1, w7.2)))) else (if x1 = 1 then (if x2 = 0 then (if x1 = 3 then (mbind (F_Mo_isName σ x2) (fun w34 => if w34.1 = 0 then (mbind (F_Mo_add w34.2 x1 0 (-1) (-1) (-1)) (fun w37 => if (w37.2.1 4) = 0 then ((w37.1, mo_ai w37.2 6 w37.1.toNatClampNeg x2)) else ((w37.1, w37.2)))) else (mbind (F_Mo_add w34.2 x1 1 (-1) (-1) (-1)) (fun w41 => if (w41.2.1 4) = 0 then ((w41.1, mo_ai w41.2 6 w41.1.toNatClampNeg x2)) else ((w41.1, w41.2)))))) else (mbind (F_Mo_add σ x1 1 (-1) (-1) (-1)) (fun w30 => if (w30.2.1 4) = 0 then ((w30.1, mo_ai w30.2 6 w30.1.toNatClampNeg x2)) else ((w30.1, w30.2))))) else (if x2 = 1 then (if x1 = 3 then (mbind (F_Mo_isName σ x2) (fun w55 => if w55.1 = 0 then (mbind (F_Mo_add w55.2 x1 0 (-1) (-1) (-1)) (fun w58 => if (w58.2.1 4) = 0 then ((w58.1, mo_ai w58.2 6 w58.1.toNatClampNeg x2)) else ((w58.1, w58.2)))) else (mbind (F_Mo_add w55.2 x1 1 (-1) (-1) (-1)) (fun w62 => if (w62.2.1 4) = 0 then ((w62.1, mo_ai w62.2 6 w62.1.toNatClampNeg x2)) else ((w62.1, w62.2)))))) else (mbind (F_Mo_add σ x1 1 (-1) (-1) (-1)) (fun w51 => if (w51.2.1 4) = 0 then ((w51.1, mo_ai w51.2 6 w51.1.toNatClampNeg x2)) else ((w51.1, w51.2))))) else (mbind (F_Mo_add σ x1 0 (-1) (-1) (-1)) (fun w46 => if (w46.2.1 4) = 0 then ((w46.1, mo_ai w46.2 6 w46.1.toNatClampNeg x2)) else ((w46.1, w46.2)))))) else (if x1 = 3 then (mbind (F_Mo_isName σ x2) (fun w17 => if w17.1 = 0 then (mbind (F_Mo_add w17.2 x1 0 (-1) (-1) (-1)) (fun w20 => if (w20.2.1 4) = 0 then ((w20.1, mo_ai w20.2 6 w20.1.toNatClampNeg x2)) else ((w20.1, w20.2)))) else (mbind (F_Mo_add w17.2 x1 1 (-1) (-1) (-1)) (fun w24 => if (w24.2.1 4) = 0 then ((w24.1, mo_ai w24.2 6 w24.1.toNatClampNeg x2)) else ((w24.1, w24.2)))))) else (mbind (F_Mo_add σ x1 1 (-1) (-1) (-1)) (fun w13 => if (w13.2.1 4) = 0 then ((w13.1, mo_ai w13.2 6 w13.1.toNatClampNeg x2)) else ((w13.1, w13.2)))))))
def S_Mo_atom (σ : mSt) (x1 : Int32) (x2 : Int32) : Prop := if x1 < 0 then ((S_Mo_add σ x1 0 (-1) (-1) (-1)) ∧ (mbind (F_Mo_add σ x1 0 (-1) (-1) (-1)) (fun w2 => if (w2.2.1 4) = 0 then ((vp_in w2.1 200) ∧ (True)) else (True)))) else (if 3 < x1 then ((S_Mo_add σ x1 0 (-1) (-1) (-1)) ∧ (mbind (F_Mo_add σ x1 0 (-1) (-1) (-1)) (fun w7 => if (w7.2.1 4) = 0 then ((vp_in w7.1 200) ∧ (True)) else (True)))) else (if x1 = 1 then (if x2 = 0 then (if x1 = 3 then ((S_Mo_isName σ x2) ∧ (mbind (F_Mo_isName σ x2) (fun w34 => if w34.1 = 0 then ((S_Mo_add w34.2 x1 0 (-1) (-1) (-1)) ∧ (mbind (F_Mo_add w34.2 x1 0 (-1) (-1) (-1)) (fun w37 => if (w37.2.1 4) = 0 then ((vp_in w37.1 200) ∧ (True)) else (True)))) else ((S_Mo_add w34.2 x1 1 (-1) (-1) (-1)) ∧ (mbind (F_Mo_add w34.2 x1 1 (-1) (-1) (-1)) (fun w41 => if (w41.2.1 4) = 0 then ((vp_in w41.1 200) ∧ (True)) else (True))))))) else ((S_Mo_add σ x1 1 (-1) (-1) (-1)) ∧ (mbind (F_Mo_add σ x1 1 (-1) (-1) (-1)) (fun w30 => if (w30.2.1 4) = 0 then ((vp_in w30.1 200) ∧ (True)) else (True))))) else (if x2 = 1 then (if x1 = 3 then ((S_Mo_isName σ x2) ∧ (mbind (F_Mo_isName σ x2) (fun w55 => if w55.1 = 0 then ((S_Mo_add w55.2 x1 0 (-1) (-1) (-1)) ∧ (mbind (F_Mo_add w55.2 x1 0 (-1) (-1) (-1)) (fun w58 => if (w58.2.1 4) = 0 then ((vp_in w58.1 200) ∧ (True)) else (True)))) else ((S_Mo_add w55.2 x1 1 (-1) (-1) (-1)) ∧ (mbind (F_Mo_add w55.2 x1 1 (-1) (-1) (-1)) (fun w62 => if (w62.2.1 4) = 0 then ((vp_in w62.1 200) ∧ (True)) else (True))))))) else ((S_Mo_add σ x1 1 (-1) (-1) (-1)) ∧ (mbind (F_Mo_add σ x1 1 (-1) (-1) (-1)) (fun w51 => if (w51.2.1 4) = 0 then ((vp_in w51.1 200) ∧ (True)) else (True))))) else ((S_Mo_add σ x1 0 (-1) (-1) (-1)) ∧ (mbind (F_Mo_add σ x1 0 (-1) (-1) (-1)) (fun w46 => if (w46.2.1 4) = 0 then ((vp_in w46.1 200) ∧ (True)) else (True)))))) else (if x1 = 3 then ((S_Mo_isName σ x2) ∧ (mbind (F_Mo_isName σ x2) (fun w17 => if w17.1 = 0 then ((S_Mo_add w17.2 x1 0 (-1) (-1) (-1)) ∧ (mbind (F_Mo_add w17.2 x1 0 (-1) (-1) (-1)) (fun w20 => if (w20.2.1 4) = 0 then ((vp_in w20.1 200) ∧ (True)) else (True)))) else ((S_Mo_add w17.2 x1 1 (-1) (-1) (-1)) ∧ (mbind (F_Mo_add w17.2 x1 1 (-1) (-1) (-1)) (fun w24 => if (w24.2.1 4) = 0 then ((vp_in w24.1 200) ∧ (True)) else (True))))))) else ((S_Mo_add σ x1 1 (-1) (-1) (-1)) ∧ (mbind (F_Mo_add σ x1 1 (-1) (-1) (-1)) (fun w13 => if (w13.2.1 4) = 0 then ((vp_in w13.1 200) ∧ (True)) else (True)))))))
set_option maxRecDepth 100000 in
set_option maxHeartbeats 4000000 in
theorem mc_Mo_atom (l : Launch) (D : va_G) (cs : Nat → ClassId) (B dE mo : Nat) (ad : Nat → Nat) (σ : mSt) (x1 : Int32) (x2 : Int32) (hS : S_Mo_atom σ x1 x2) : mMet l y_Mo_atom (Cond.code y_Mo_atom c_Mo_atom 5 (some .int)) ({ frames := 2, cells := 0, slots := 0, locals := 48 } : Room) D cs B dE mo ad [.ref mo, .int x1, .int x2] σ (fun r σ' => r = some (.int (F_Mo_atom σ x1 x2).1) ∧ σ' = (F_Mo_atom σ x1 x2).2) := by
  refine mMet.ofW (by decide) rfl (Nat.le_of_ble_eq_true rfl) (lv0 := [(0, .ref mo), (1, .int x1), (2, .int x2)]) rfl ?_
  intro p e s m args below meth c M0 C hE hr hlocks
  generalize hF : F_Mo_atom σ x1 x2 = Fv
  unfold F_Mo_atom at hF
  unfold S_Mo_atom at hS
  refine g_iload_n C d_Mo_atom_0 rfl ?_
  refine g_if_lt C 39 d_Mo_atom_1 (by decide) (fun hc1 => ?_) (fun hc1 => ?_)
  · rw [if_pos hc1] at hF hS
    refine g_iconst (v := 0) C d_Mo_atom_39 (by decide) ?_
    refine g_istore_n (lv' := [(3, .int 0), (0, .ref mo), (1, .int x1), (2, .int x2)]) C d_Mo_atom_40 (by decide) rfl ?_
    refine g_aload_n C d_Mo_atom_41 rfl ?_
    refine g_iload_n C d_Mo_atom_42 rfl ?_
    refine g_iload_n C d_Mo_atom_43 rfl ?_
    refine g_iconst (v := (-1)) C d_Mo_atom_44 (by decide) ?_
    refine g_iconst (v := (-1)) C d_Mo_atom_45 (by decide) ?_
    refine g_iconst (v := (-1)) C d_Mo_atom_46 (by decide) ?_
    obtain ⟨hs3, hS⟩ := hS
    refine m_callV (n := 5) (av := [.int x1, .int 0, .int (-1), .int (-1), .int (-1)]) (rest := []) C hE (mc_Mo_add l D cs B dE mo ad _ _ _ _ _ _ hs3) km_Mo_213 kv_Mo_add kl_Mo_add kd_Mo_add ki_Mo ⟨rfl, by decide, by decide, by decide⟩ rfl ⟨rfl, rfl⟩ (by decide) (by decide) d_Mo_atom_47 (Nat.le_of_ble_eq_true rfl) _ rfl (fun v1 σ1 hv => ?_)
    obtain ⟨rfl, rfl⟩ := hv
    rw [mbind_eq] at hF hS
    generalize F_Mo_add σ x1 0 (-1) (-1) (-1) = w2 at hF hS ⊢
    refine GW.eqs (st' := [.int w2.1]) rfl ?_
    refine g_istore (lv' := [(4, .int w2.1), (3, .int 0), (0, .ref mo), (1, .int x1), (2, .int x2)]) C d_Mo_atom_50 (by decide) rfl ?_
    refine g_aload_n C d_Mo_atom_52 rfl ?_
    refine m_geti C hE 4 (by decide) (by decide) kf_Mo_142 d_Mo_atom_53 ?_
    refine g_if_ne C 67 d_Mo_atom_56 (by decide) (fun hc4 => ?_) (fun hc4 => ?_)
    · rw [if_neg hc4] at hF hS
      refine g_iload C d_Mo_atom_67 rfl ?_
      exact m_iret C hr hlocks d_Mo_atom_69 (by rw [← hF]; exact ⟨rfl, rfl⟩)
    · rw [if_pos hc4] at hF hS
      refine g_aload_n C d_Mo_atom_59 rfl ?_
      refine m_geta C hE 6 (by decide) (by decide) (by decide) kf_Mo_13 d_Mo_atom_60 ?_
      refine g_iload C d_Mo_atom_63 rfl ?_
      refine g_iload_n C d_Mo_atom_65 rfl ?_
      obtain ⟨hi5, hS⟩ := hS
      refine m_ast C hE 6 (by decide) (by decide) hi5 d_Mo_atom_66 ?_
      refine g_iload C d_Mo_atom_67 rfl ?_
      exact m_iret C hr hlocks d_Mo_atom_69 (by rw [← hF]; exact ⟨rfl, rfl⟩)
  · rw [if_neg hc1] at hF hS
    refine g_iload_n C d_Mo_atom_4 rfl ?_
    refine g_iconst (v := 3) C d_Mo_atom_5 (by decide) ?_
    refine g_icmp_gt C 39 d_Mo_atom_6 (by decide) (fun hc6 => ?_) (fun hc6 => ?_)
    · rw [if_pos hc6] at hF hS
      refine g_iconst (v := 0) C d_Mo_atom_39 (by decide) ?_
      refine g_istore_n (lv' := [(3, .int 0), (0, .ref mo), (1, .int x1), (2, .int x2)]) C d_Mo_atom_40 (by decide) rfl ?_
      refine g_aload_n C d_Mo_atom_41 rfl ?_
      refine g_iload_n C d_Mo_atom_42 rfl ?_
      refine g_iload_n C d_Mo_atom_43 rfl ?_
      refine g_iconst (v := (-1)) C d_Mo_atom_44 (by decide) ?_
      refine g_iconst (v := (-1)) C d_Mo_atom_45 (by decide) ?_
      refine g_iconst (v := (-1)) C d_Mo_atom_46 (by decide) ?_
      obtain ⟨hs8, hS⟩ := hS
      refine m_callV (n := 5) (av := [.int x1, .int 0, .int (-1), .int (-1), .int (-1)]) (rest := []) C hE (mc_Mo_add l D cs B dE mo ad _ _ _ _ _ _ hs8) km_Mo_213 kv_Mo_add kl_Mo_add kd_Mo_add ki_Mo ⟨rfl, by decide, by decide, by decide⟩ rfl ⟨rfl, rfl⟩ (by decide) (by decide) d_Mo_atom_47 (Nat.le_of_ble_eq_true rfl) _ rfl (fun v1 σ1 hv => ?_)
      obtain ⟨rfl, rfl⟩ := hv
      rw [mbind_eq] at hF hS
      generalize F_Mo_add σ x1 0 (-1) (-1) (-1) = w7 at hF hS ⊢
      refine GW.eqs (st' := [.int w7.1]) rfl ?_
      refine g_istore (lv' := [(4, .int w7.1), (3, .int 0), (0, .ref mo), (1, .int x1), (2, .int x2)]) C d_Mo_atom_50 (by decide) rfl ?_
      refine g_aload_n C d_Mo_atom_52 rfl ?_
      refine m_geti C hE 4 (by decide) (by decide) kf_Mo_142 d_Mo_atom_53 ?_
      refine g_if_ne C 67 d_Mo_atom_56 (by decide) (fun hc9 => ?_) (fun hc9 => ?_)
      · rw [if_neg hc9] at hF hS
        refine g_iload C d_Mo_atom_67 rfl ?_
        exact m_iret C hr hlocks d_Mo_atom_69 (by rw [← hF]; exact ⟨rfl, rfl⟩)
      · rw [if_pos hc9] at hF hS
        refine g_aload_n C d_Mo_atom_59 rfl ?_
        refine m_geta C hE 6 (by decide) (by decide) (by decide) kf_Mo_13 d_Mo_atom_60 ?_
        refine g_iload C d_Mo_atom_63 rfl ?_
        refine g_iload_n C d_Mo_atom_65 rfl ?_
        obtain ⟨hi10, hS⟩ := hS
        refine m_ast C hE 6 (by decide) (by decide) hi10 d_Mo_atom_66 ?_
        refine g_iload C d_Mo_atom_67 rfl ?_
        exact m_iret C hr hlocks d_Mo_atom_69 (by rw [← hF]; exact ⟨rfl, rfl⟩)
    · rw [if_neg hc6] at hF hS
      refine g_iload_n C d_Mo_atom_9 rfl ?_
      refine g_iconst (v := 1) C d_Mo_atom_10 (by decide) ?_
      refine g_icmp_ne C 23 d_Mo_atom_11 (by decide) (fun hc11 => ?_) (fun hc11 => ?_)
      · rw [if_neg hc11] at hF hS
        refine g_iload_n C d_Mo_atom_23 rfl ?_
        refine g_iconst (v := 3) C d_Mo_atom_24 (by decide) ?_
        refine g_icmp_ne C 35 d_Mo_atom_25 (by decide) (fun hc12 => ?_) (fun hc12 => ?_)
        · rw [if_neg hc12] at hF hS
          refine g_iconst (v := 1) C d_Mo_atom_35 (by decide) ?_
          refine g_goto C 40 d_Mo_atom_36 (by decide) ?_
          refine g_istore_n (lv' := [(3, .int 1), (0, .ref mo), (1, .int x1), (2, .int x2)]) C d_Mo_atom_40 (by decide) rfl ?_
          refine g_aload_n C d_Mo_atom_41 rfl ?_
          refine g_iload_n C d_Mo_atom_42 rfl ?_
          refine g_iload_n C d_Mo_atom_43 rfl ?_
          refine g_iconst (v := (-1)) C d_Mo_atom_44 (by decide) ?_
          refine g_iconst (v := (-1)) C d_Mo_atom_45 (by decide) ?_
          refine g_iconst (v := (-1)) C d_Mo_atom_46 (by decide) ?_
          obtain ⟨hs14, hS⟩ := hS
          refine m_callV (n := 5) (av := [.int x1, .int 1, .int (-1), .int (-1), .int (-1)]) (rest := []) C hE (mc_Mo_add l D cs B dE mo ad _ _ _ _ _ _ hs14) km_Mo_213 kv_Mo_add kl_Mo_add kd_Mo_add ki_Mo ⟨rfl, by decide, by decide, by decide⟩ rfl ⟨rfl, rfl⟩ (by decide) (by decide) d_Mo_atom_47 (Nat.le_of_ble_eq_true rfl) _ rfl (fun v1 σ1 hv => ?_)
          obtain ⟨rfl, rfl⟩ := hv
          rw [mbind_eq] at hF hS
          generalize F_Mo_add σ x1 1 (-1) (-1) (-1) = w13 at hF hS ⊢
          refine GW.eqs (st' := [.int w13.1]) rfl ?_
          refine g_istore (lv' := [(4, .int w13.1), (3, .int 1), (0, .ref mo), (1, .int x1), (2, .int x2)]) C d_Mo_atom_50 (by decide) rfl ?_
          refine g_aload_n C d_Mo_atom_52 rfl ?_
          refine m_geti C hE 4 (by decide) (by decide) kf_Mo_142 d_Mo_atom_53 ?_
          refine g_if_ne C 67 d_Mo_atom_56 (by decide) (fun hc15 => ?_) (fun hc15 => ?_)
          · rw [if_neg hc15] at hF hS
            refine g_iload C d_Mo_atom_67 rfl ?_
            exact m_iret C hr hlocks d_Mo_atom_69 (by rw [← hF]; exact ⟨rfl, rfl⟩)
          · rw [if_pos hc15] at hF hS
            refine g_aload_n C d_Mo_atom_59 rfl ?_
            refine m_geta C hE 6 (by decide) (by decide) (by decide) kf_Mo_13 d_Mo_atom_60 ?_
            refine g_iload C d_Mo_atom_63 rfl ?_
            refine g_iload_n C d_Mo_atom_65 rfl ?_
            obtain ⟨hi16, hS⟩ := hS
            refine m_ast C hE 6 (by decide) (by decide) hi16 d_Mo_atom_66 ?_
            refine g_iload C d_Mo_atom_67 rfl ?_
            exact m_iret C hr hlocks d_Mo_atom_69 (by rw [← hF]; exact ⟨rfl, rfl⟩)
        · rw [if_pos hc12] at hF hS
          refine g_iload_n C d_Mo_atom_28 rfl ?_
          obtain ⟨hs18, hS⟩ := hS
          refine m_callS (n := 1) (av := [.int x2]) (rest := []) C hE (mc_Mo_isName l D cs B dE mo ad _ _ hs18) km_Mo_210 ks_Mo_isName kd_Mo_isName ki_Mo ⟨rfl, by decide, by decide, by decide⟩ rfl ⟨rfl, rfl⟩ (by decide) (by decide) d_Mo_atom_29 (Nat.le_of_ble_eq_true rfl) _ rfl (fun v1 σ1 hv => ?_)
          obtain ⟨rfl, rfl⟩ := hv
          rw [mbind_eq] at hF hS
          generalize F_Mo_isName σ x2 = w17 at hF hS ⊢
          refine GW.eqs (st' := [.int w17.1]) rfl ?_
          refine g_if_eq C 39 d_Mo_atom_32 (by decide) (fun hc19 => ?_) (fun hc19 => ?_)
          · rw [if_pos hc19] at hF hS
            refine g_iconst (v := 0) C d_Mo_atom_39 (by decide) ?_
            refine g_istore_n (lv' := [(3, .int 0), (0, .ref mo), (1, .int x1), (2, .int x2)]) C d_Mo_atom_40 (by decide) rfl ?_
            refine g_aload_n C d_Mo_atom_41 rfl ?_
            refine g_iload_n C d_Mo_atom_42 rfl ?_
            refine g_iload_n C d_Mo_atom_43 rfl ?_
            refine g_iconst (v := (-1)) C d_Mo_atom_44 (by decide) ?_
            refine g_iconst (v := (-1)) C d_Mo_atom_45 (by decide) ?_
            refine g_iconst (v := (-1)) C d_Mo_atom_46 (by decide) ?_
            obtain ⟨hs21, hS⟩ := hS
            refine m_callV (n := 5) (av := [.int x1, .int 0, .int (-1), .int (-1), .int (-1)]) (rest := []) C hE (mc_Mo_add l D cs B dE mo ad _ _ _ _ _ _ hs21) km_Mo_213 kv_Mo_add kl_Mo_add kd_Mo_add ki_Mo ⟨rfl, by decide, by decide, by decide⟩ rfl ⟨rfl, rfl⟩ (by decide) (by decide) d_Mo_atom_47 (Nat.le_of_ble_eq_true rfl) _ rfl (fun v1 σ1 hv => ?_)
            obtain ⟨rfl, rfl⟩ := hv
            rw [mbind_eq] at hF hS
            generalize F_Mo_add w17.2 x1 0 (-1) (-1) (-1) = w20 at hF hS ⊢
            refine GW.eqs (st' := [.int w20.1]) rfl ?_
            refine g_istore (lv' := [(4, .int w20.1), (3, .int 0), (0, .ref mo), (1, .int x1), (2, .int x2)]) C d_Mo_atom_50 (by decide) rfl ?_
            refine g_aload_n C d_Mo_atom_52 rfl ?_
            refine m_geti C hE 4 (by decide) (by decide) kf_Mo_142 d_Mo_atom_53 ?_
            refine g_if_ne C 67 d_Mo_atom_56 (by decide) (fun hc22 => ?_) (fun hc22 => ?_)
            · rw [if_neg hc22] at hF hS
              refine g_iload C d_Mo_atom_67 rfl ?_
              exact m_iret C hr hlocks d_Mo_atom_69 (by rw [← hF]; exact ⟨rfl, rfl⟩)
            · rw [if_pos hc22] at hF hS
              refine g_aload_n C d_Mo_atom_59 rfl ?_
              refine m_geta C hE 6 (by decide) (by decide) (by decide) kf_Mo_13 d_Mo_atom_60 ?_
              refine g_iload C d_Mo_atom_63 rfl ?_
              refine g_iload_n C d_Mo_atom_65 rfl ?_
              obtain ⟨hi23, hS⟩ := hS
              refine m_ast C hE 6 (by decide) (by decide) hi23 d_Mo_atom_66 ?_
              refine g_iload C d_Mo_atom_67 rfl ?_
              exact m_iret C hr hlocks d_Mo_atom_69 (by rw [← hF]; exact ⟨rfl, rfl⟩)
          · rw [if_neg hc19] at hF hS
            refine g_iconst (v := 1) C d_Mo_atom_35 (by decide) ?_
            refine g_goto C 40 d_Mo_atom_36 (by decide) ?_
            refine g_istore_n (lv' := [(3, .int 1), (0, .ref mo), (1, .int x1), (2, .int x2)]) C d_Mo_atom_40 (by decide) rfl ?_
            refine g_aload_n C d_Mo_atom_41 rfl ?_
            refine g_iload_n C d_Mo_atom_42 rfl ?_
            refine g_iload_n C d_Mo_atom_43 rfl ?_
            refine g_iconst (v := (-1)) C d_Mo_atom_44 (by decide) ?_
            refine g_iconst (v := (-1)) C d_Mo_atom_45 (by decide) ?_
            refine g_iconst (v := (-1)) C d_Mo_atom_46 (by decide) ?_
            obtain ⟨hs25, hS⟩ := hS
            refine m_callV (n := 5) (av := [.int x1, .int 1, .int (-1), .int (-1), .int (-1)]) (rest := []) C hE (mc_Mo_add l D cs B dE mo ad _ _ _ _ _ _ hs25) km_Mo_213 kv_Mo_add kl_Mo_add kd_Mo_add ki_Mo ⟨rfl, by decide, by decide, by decide⟩ rfl ⟨rfl, rfl⟩ (by decide) (by decide) d_Mo_atom_47 (Nat.le_of_ble_eq_true rfl) _ rfl (fun v1 σ1 hv => ?_)
            obtain ⟨rfl, rfl⟩ := hv
            rw [mbind_eq] at hF hS
            generalize F_Mo_add w17.2 x1 1 (-1) (-1) (-1) = w24 at hF hS ⊢
            refine GW.eqs (st' := [.int w24.1]) rfl ?_
            refine g_istore (lv' := [(4, .int w24.1), (3, .int 1), (0, .ref mo), (1, .int x1), (2, .int x2)]) C d_Mo_atom_50 (by decide) rfl ?_
            refine g_aload_n C d_Mo_atom_52 rfl ?_
            refine m_geti C hE 4 (by decide) (by decide) kf_Mo_142 d_Mo_atom_53 ?_
            refine g_if_ne C 67 d_Mo_atom_56 (by decide) (fun hc26 => ?_) (fun hc26 => ?_)
            · rw [if_neg hc26] at hF hS
              refine g_iload C d_Mo_atom_67 rfl ?_
              exact m_iret C hr hlocks d_Mo_atom_69 (by rw [← hF]; exact ⟨rfl, rfl⟩)
            · rw [if_pos hc26] at hF hS
              refine g_aload_n C d_Mo_atom_59 rfl ?_
              refine m_geta C hE 6 (by decide) (by decide) (by decide) kf_Mo_13 d_Mo_atom_60 ?_
              refine g_iload C d_Mo_atom_63 rfl ?_
              refine g_iload_n C d_Mo_atom_65 rfl ?_
              obtain ⟨hi27, hS⟩ := hS
              refine m_ast C hE 6 (by decide) (by decide) hi27 d_Mo_atom_66 ?_
              refine g_iload C d_Mo_atom_67 rfl ?_
              exact m_iret C hr hlocks d_Mo_atom_69 (by rw [← hF]; exact ⟨rfl, rfl⟩)
      · rw [if_pos hc11] at hF hS
        refine g_iload_n C d_Mo_atom_14 rfl ?_
        refine g_if_eq C 23 d_Mo_atom_15 (by decide) (fun hc28 => ?_) (fun hc28 => ?_)
        · rw [if_pos hc28] at hF hS
          refine g_iload_n C d_Mo_atom_23 rfl ?_
          refine g_iconst (v := 3) C d_Mo_atom_24 (by decide) ?_
          refine g_icmp_ne C 35 d_Mo_atom_25 (by decide) (fun hc29 => ?_) (fun hc29 => ?_)
          · rw [if_neg hc29] at hF hS
            refine g_iconst (v := 1) C d_Mo_atom_35 (by decide) ?_
            refine g_goto C 40 d_Mo_atom_36 (by decide) ?_
            refine g_istore_n (lv' := [(3, .int 1), (0, .ref mo), (1, .int x1), (2, .int x2)]) C d_Mo_atom_40 (by decide) rfl ?_
            refine g_aload_n C d_Mo_atom_41 rfl ?_
            refine g_iload_n C d_Mo_atom_42 rfl ?_
            refine g_iload_n C d_Mo_atom_43 rfl ?_
            refine g_iconst (v := (-1)) C d_Mo_atom_44 (by decide) ?_
            refine g_iconst (v := (-1)) C d_Mo_atom_45 (by decide) ?_
            refine g_iconst (v := (-1)) C d_Mo_atom_46 (by decide) ?_
            obtain ⟨hs31, hS⟩ := hS
            refine m_callV (n := 5) (av := [.int x1, .int 1, .int (-1), .int (-1), .int (-1)]) (rest := []) C hE (mc_Mo_add l D cs B dE mo ad _ _ _ _ _ _ hs31) km_Mo_213 kv_Mo_add kl_Mo_add kd_Mo_add ki_Mo ⟨rfl, by decide, by decide, by decide⟩ rfl ⟨rfl, rfl⟩ (by decide) (by decide) d_Mo_atom_47 (Nat.le_of_ble_eq_true rfl) _ rfl (fun v1 σ1 hv => ?_)
            obtain ⟨rfl, rfl⟩ := hv
            rw [mbind_eq] at hF hS
            generalize F_Mo_add σ x1 1 (-1) (-1) (-1) = w30 at hF hS ⊢
            refine GW.eqs (st' := [.int w30.1]) rfl ?_
            refine g_istore (lv' := [(4, .int w30.1), (3, .int 1), (0, .ref mo), (1, .int x1), (2, .int x2)]) C d_Mo_atom_50 (by decide) rfl ?_
            refine g_aload_n C d_Mo_atom_52 rfl ?_
            refine m_geti C hE 4 (by decide) (by decide) kf_Mo_142 d_Mo_atom_53 ?_
            refine g_if_ne C 67 d_Mo_atom_56 (by decide) (fun hc32 => ?_) (fun hc32 => ?_)
            · rw [if_neg hc32] at hF hS
              refine g_iload C d_Mo_atom_67 rfl ?_
              exact m_iret C hr hlocks d_Mo_atom_69 (by rw [← hF]; exact ⟨rfl, rfl⟩)
            · rw [if_pos hc32] at hF hS
              refine g_aload_n C d_Mo_atom_59 rfl ?_
              refine m_geta C hE 6 (by decide) (by decide) (by decide) kf_Mo_13 d_Mo_atom_60 ?_
              refine g_iload C d_Mo_atom_63 rfl ?_
              refine g_iload_n C d_Mo_atom_65 rfl ?_
              obtain ⟨hi33, hS⟩ := hS
              refine m_ast C hE 6 (by decide) (by decide) hi33 d_Mo_atom_66 ?_
              refine g_iload C d_Mo_atom_67 rfl ?_
              exact m_iret C hr hlocks d_Mo_atom_69 (by rw [← hF]; exact ⟨rfl, rfl⟩)
          · rw [if_pos hc29] at hF hS
            refine g_iload_n C d_Mo_atom_28 rfl ?_
            obtain ⟨hs35, hS⟩ := hS
            refine m_callS (n := 1) (av := [.int x2]) (rest := []) C hE (mc_Mo_isName l D cs B dE mo ad _ _ hs35) km_Mo_210 ks_Mo_isName kd_Mo_isName ki_Mo ⟨rfl, by decide, by decide, by decide⟩ rfl ⟨rfl, rfl⟩ (by decide) (by decide) d_Mo_atom_29 (Nat.le_of_ble_eq_true rfl) _ rfl (fun v1 σ1 hv => ?_)
            obtain ⟨rfl, rfl⟩ := hv
            rw [mbind_eq] at hF hS
            generalize F_Mo_isName σ x2 = w34 at hF hS ⊢
            refine GW.eqs (st' := [.int w34.1]) rfl ?_
            refine g_if_eq C 39 d_Mo_atom_32 (by decide) (fun hc36 => ?_) (fun hc36 => ?_)
            · rw [if_pos hc36] at hF hS
              refine g_iconst (v := 0) C d_Mo_atom_39 (by decide) ?_
              refine g_istore_n (lv' := [(3, .int 0), (0, .ref mo), (1, .int x1), (2, .int x2)]) C d_Mo_atom_40 (by decide) rfl ?_
              refine g_aload_n C d_Mo_atom_41 rfl ?_
              refine g_iload_n C d_Mo_atom_42 rfl ?_
              refine g_iload_n C d_Mo_atom_43 rfl ?_
              refine g_iconst (v := (-1)) C d_Mo_atom_44 (by decide) ?_
              refine g_iconst (v := (-1)) C d_Mo_atom_45 (by decide) ?_
              refine g_iconst (v := (-1)) C d_Mo_atom_46 (by decide) ?_
              obtain ⟨hs38, hS⟩ := hS
              refine m_callV (n := 5) (av := [.int x1, .int 0, .int (-1), .int (-1), .int (-1)]) (rest := []) C hE (mc_Mo_add l D cs B dE mo ad _ _ _ _ _ _ hs38) km_Mo_213 kv_Mo_add kl_Mo_add kd_Mo_add ki_Mo ⟨rfl, by decide, by decide, by decide⟩ rfl ⟨rfl, rfl⟩ (by decide) (by decide) d_Mo_atom_47 (Nat.le_of_ble_eq_true rfl) _ rfl (fun v1 σ1 hv => ?_)
              obtain ⟨rfl, rfl⟩ := hv
              rw [mbind_eq] at hF hS
              generalize F_Mo_add w34.2 x1 0 (-1) (-1) (-1) = w37 at hF hS ⊢
              refine GW.eqs (st' := [.int w37.1]) rfl ?_
              refine g_istore (lv' := [(4, .int w37.1), (3, .int 0), (0, .ref mo), (1, .int x1), (2, .int x2)]) C d_Mo_atom_50 (by decide) rfl ?_
              refine g_aload_n C d_Mo_atom_52 rfl ?_
              refine m_geti C hE 4 (by decide) (by decide) kf_Mo_142 d_Mo_atom_53 ?_
              refine g_if_ne C 67 d_Mo_atom_56 (by decide) (fun hc39 => ?_) (fun hc39 => ?_)
              · rw [if_neg hc39] at hF hS
                refine g_iload C d_Mo_atom_67 rfl ?_
                exact m_iret C hr hlocks d_Mo_atom_69 (by rw [← hF]; exact ⟨rfl, rfl⟩)
              · rw [if_pos hc39] at hF hS
                refine g_aload_n C d_Mo_atom_59 rfl ?_
                refine m_geta C hE 6 (by decide) (by decide) (by decide) kf_Mo_13 d_Mo_atom_60 ?_
                refine g_iload C d_Mo_atom_63 rfl ?_
                refine g_iload_n C d_Mo_atom_65 rfl ?_
                obtain ⟨hi40, hS⟩ := hS
                refine m_ast C hE 6 (by decide) (by decide) hi40 d_Mo_atom_66 ?_
                refine g_iload C d_Mo_atom_67 rfl ?_
                exact m_iret C hr hlocks d_Mo_atom_69 (by rw [← hF]; exact ⟨rfl, rfl⟩)
            · rw [if_neg hc36] at hF hS
              refine g_iconst (v := 1) C d_Mo_atom_35 (by decide) ?_
              refine g_goto C 40 d_Mo_atom_36 (by decide) ?_
              refine g_istore_n (lv' := [(3, .int 1), (0, .ref mo), (1, .int x1), (2, .int x2)]) C d_Mo_atom_40 (by decide) rfl ?_
              refine g_aload_n C d_Mo_atom_41 rfl ?_
              refine g_iload_n C d_Mo_atom_42 rfl ?_
              refine g_iload_n C d_Mo_atom_43 rfl ?_
              refine g_iconst (v := (-1)) C d_Mo_atom_44 (by decide) ?_
              refine g_iconst (v := (-1)) C d_Mo_atom_45 (by decide) ?_
              refine g_iconst (v := (-1)) C d_Mo_atom_46 (by decide) ?_
              obtain ⟨hs42, hS⟩ := hS
              refine m_callV (n := 5) (av := [.int x1, .int 1, .int (-1), .int (-1), .int (-1)]) (rest := []) C hE (mc_Mo_add l D cs B dE mo ad _ _ _ _ _ _ hs42) km_Mo_213 kv_Mo_add kl_Mo_add kd_Mo_add ki_Mo ⟨rfl, by decide, by decide, by decide⟩ rfl ⟨rfl, rfl⟩ (by decide) (by decide) d_Mo_atom_47 (Nat.le_of_ble_eq_true rfl) _ rfl (fun v1 σ1 hv => ?_)
              obtain ⟨rfl, rfl⟩ := hv
              rw [mbind_eq] at hF hS
              generalize F_Mo_add w34.2 x1 1 (-1) (-1) (-1) = w41 at hF hS ⊢
              refine GW.eqs (st' := [.int w41.1]) rfl ?_
              refine g_istore (lv' := [(4, .int w41.1), (3, .int 1), (0, .ref mo), (1, .int x1), (2, .int x2)]) C d_Mo_atom_50 (by decide) rfl ?_
              refine g_aload_n C d_Mo_atom_52 rfl ?_
              refine m_geti C hE 4 (by decide) (by decide) kf_Mo_142 d_Mo_atom_53 ?_
              refine g_if_ne C 67 d_Mo_atom_56 (by decide) (fun hc43 => ?_) (fun hc43 => ?_)
              · rw [if_neg hc43] at hF hS
                refine g_iload C d_Mo_atom_67 rfl ?_
                exact m_iret C hr hlocks d_Mo_atom_69 (by rw [← hF]; exact ⟨rfl, rfl⟩)
              · rw [if_pos hc43] at hF hS
                refine g_aload_n C d_Mo_atom_59 rfl ?_
                refine m_geta C hE 6 (by decide) (by decide) (by decide) kf_Mo_13 d_Mo_atom_60 ?_
                refine g_iload C d_Mo_atom_63 rfl ?_
                refine g_iload_n C d_Mo_atom_65 rfl ?_
                obtain ⟨hi44, hS⟩ := hS
                refine m_ast C hE 6 (by decide) (by decide) hi44 d_Mo_atom_66 ?_
                refine g_iload C d_Mo_atom_67 rfl ?_
                exact m_iret C hr hlocks d_Mo_atom_69 (by rw [← hF]; exact ⟨rfl, rfl⟩)
        · rw [if_neg hc28] at hF hS
          refine g_iload_n C d_Mo_atom_18 rfl ?_
          refine g_iconst (v := 1) C d_Mo_atom_19 (by decide) ?_
          refine g_icmp_ne C 39 d_Mo_atom_20 (by decide) (fun hc45 => ?_) (fun hc45 => ?_)
          · rw [if_neg hc45] at hF hS
            refine g_iconst (v := 0) C d_Mo_atom_39 (by decide) ?_
            refine g_istore_n (lv' := [(3, .int 0), (0, .ref mo), (1, .int x1), (2, .int x2)]) C d_Mo_atom_40 (by decide) rfl ?_
            refine g_aload_n C d_Mo_atom_41 rfl ?_
            refine g_iload_n C d_Mo_atom_42 rfl ?_
            refine g_iload_n C d_Mo_atom_43 rfl ?_
            refine g_iconst (v := (-1)) C d_Mo_atom_44 (by decide) ?_
            refine g_iconst (v := (-1)) C d_Mo_atom_45 (by decide) ?_
            refine g_iconst (v := (-1)) C d_Mo_atom_46 (by decide) ?_
            obtain ⟨hs47, hS⟩ := hS
            refine m_callV (n := 5) (av := [.int x1, .int 0, .int (-1), .int (-1), .int (-1)]) (rest := []) C hE (mc_Mo_add l D cs B dE mo ad _ _ _ _ _ _ hs47) km_Mo_213 kv_Mo_add kl_Mo_add kd_Mo_add ki_Mo ⟨rfl, by decide, by decide, by decide⟩ rfl ⟨rfl, rfl⟩ (by decide) (by decide) d_Mo_atom_47 (Nat.le_of_ble_eq_true rfl) _ rfl (fun v1 σ1 hv => ?_)
            obtain ⟨rfl, rfl⟩ := hv
            rw [mbind_eq] at hF hS
            generalize F_Mo_add σ x1 0 (-1) (-1) (-1) = w46 at hF hS ⊢
            refine GW.eqs (st' := [.int w46.1]) rfl ?_
            refine g_istore (lv' := [(4, .int w46.1), (3, .int 0), (0, .ref mo), (1, .int x1), (2, .int x2)]) C d_Mo_atom_50 (by decide) rfl ?_
            refine g_aload_n C d_Mo_atom_52 rfl ?_
            refine m_geti C hE 4 (by decide) (by decide) kf_Mo_142 d_Mo_atom_53 ?_
            refine g_if_ne C 67 d_Mo_atom_56 (by decide) (fun hc48 => ?_) (fun hc48 => ?_)
            · rw [if_neg hc48] at hF hS
              refine g_iload C d_Mo_atom_67 rfl ?_
              exact m_iret C hr hlocks d_Mo_atom_69 (by rw [← hF]; exact ⟨rfl, rfl⟩)
            · rw [if_pos hc48] at hF hS
              refine g_aload_n C d_Mo_atom_59 rfl ?_
              refine m_geta C hE 6 (by decide) (by decide) (by decide) kf_Mo_13 d_Mo_atom_60 ?_
              refine g_iload C d_Mo_atom_63 rfl ?_
              refine g_iload_n C d_Mo_atom_65 rfl ?_
              obtain ⟨hi49, hS⟩ := hS
              refine m_ast C hE 6 (by decide) (by decide) hi49 d_Mo_atom_66 ?_
              refine g_iload C d_Mo_atom_67 rfl ?_
              exact m_iret C hr hlocks d_Mo_atom_69 (by rw [← hF]; exact ⟨rfl, rfl⟩)
          · rw [if_pos hc45] at hF hS
            refine g_iload_n C d_Mo_atom_23 rfl ?_
            refine g_iconst (v := 3) C d_Mo_atom_24 (by decide) ?_
            refine g_icmp_ne C 35 d_Mo_atom_25 (by decide) (fun hc50 => ?_) (fun hc50 => ?_)
            · rw [if_neg hc50] at hF hS
              refine g_iconst (v := 1) C d_Mo_atom_35 (by decide) ?_
              refine g_goto C 40 d_Mo_atom_36 (by decide) ?_
              refine g_istore_n (lv' := [(3, .int 1), (0, .ref mo), (1, .int x1), (2, .int x2)]) C d_Mo_atom_40 (by decide) rfl ?_
              refine g_aload_n C d_Mo_atom_41 rfl ?_
              refine g_iload_n C d_Mo_atom_42 rfl ?_
              refine g_iload_n C d_Mo_atom_43 rfl ?_
              refine g_iconst (v := (-1)) C d_Mo_atom_44 (by decide) ?_
              refine g_iconst (v := (-1)) C d_Mo_atom_45 (by decide) ?_
              refine g_iconst (v := (-1)) C d_Mo_atom_46 (by decide) ?_
              obtain ⟨hs52, hS⟩ := hS
              refine m_callV (n := 5) (av := [.int x1, .int 1, .int (-1), .int (-1), .int (-1)]) (rest := []) C hE (mc_Mo_add l D cs B dE mo ad _ _ _ _ _ _ hs52) km_Mo_213 kv_Mo_add kl_Mo_add kd_Mo_add ki_Mo ⟨rfl, by decide, by decide, by decide⟩ rfl ⟨rfl, rfl⟩ (by decide) (by decide) d_Mo_atom_47 (Nat.le_of_ble_eq_true rfl) _ rfl (fun v1 σ1 hv => ?_)
              obtain ⟨rfl, rfl⟩ := hv
              rw [mbind_eq] at hF hS
              generalize F_Mo_add σ x1 1 (-1) (-1) (-1) = w51 at hF hS ⊢
              refine GW.eqs (st' := [.int w51.1]) rfl ?_
              refine g_istore (lv' := [(4, .int w51.1), (3, .int 1), (0, .ref mo), (1, .int x1), (2, .int x2)]) C d_Mo_atom_50 (by decide) rfl ?_
              refine g_aload_n C d_Mo_atom_52 rfl ?_
              refine m_geti C hE 4 (by decide) (by decide) kf_Mo_142 d_Mo_atom_53 ?_
              refine g_if_ne C 67 d_Mo_atom_56 (by decide) (fun hc53 => ?_) (fun hc53 => ?_)
              · rw [if_neg hc53] at hF hS
                refine g_iload C d_Mo_atom_67 rfl ?_
                exact m_iret C hr hlocks d_Mo_atom_69 (by rw [← hF]; exact ⟨rfl, rfl⟩)
              · rw [if_pos hc53] at hF hS
                refine g_aload_n C d_Mo_atom_59 rfl ?_
                refine m_geta C hE 6 (by decide) (by decide) (by decide) kf_Mo_13 d_Mo_atom_60 ?_
                refine g_iload C d_Mo_atom_63 rfl ?_
                refine g_iload_n C d_Mo_atom_65 rfl ?_
                obtain ⟨hi54, hS⟩ := hS
                refine m_ast C hE 6 (by decide) (by decide) hi54 d_Mo_atom_66 ?_
                refine g_iload C d_Mo_atom_67 rfl ?_
                exact m_iret C hr hlocks d_Mo_atom_69 (by rw [← hF]; exact ⟨rfl, rfl⟩)
            · rw [if_pos hc50] at hF hS
              refine g_iload_n C d_Mo_atom_28 rfl ?_
              obtain ⟨hs56, hS⟩ := hS
              refine m_callS (n := 1) (av := [.int x2]) (rest := []) C hE (mc_Mo_isName l D cs B dE mo ad _ _ hs56) km_Mo_210 ks_Mo_isName kd_Mo_isName ki_Mo ⟨rfl, by decide, by decide, by decide⟩ rfl ⟨rfl, rfl⟩ (by decide) (by decide) d_Mo_atom_29 (Nat.le_of_ble_eq_true rfl) _ rfl (fun v1 σ1 hv => ?_)
              obtain ⟨rfl, rfl⟩ := hv
              rw [mbind_eq] at hF hS
              generalize F_Mo_isName σ x2 = w55 at hF hS ⊢
              refine GW.eqs (st' := [.int w55.1]) rfl ?_
              refine g_if_eq C 39 d_Mo_atom_32 (by decide) (fun hc57 => ?_) (fun hc57 => ?_)
              · rw [if_pos hc57] at hF hS
                refine g_iconst (v := 0) C d_Mo_atom_39 (by decide) ?_
                refine g_istore_n (lv' := [(3, .int 0), (0, .ref mo), (1, .int x1), (2, .int x2)]) C d_Mo_atom_40 (by decide) rfl ?_
                refine g_aload_n C d_Mo_atom_41 rfl ?_
                refine g_iload_n C d_Mo_atom_42 rfl ?_
                refine g_iload_n C d_Mo_atom_43 rfl ?_
                refine g_iconst (v := (-1)) C d_Mo_atom_44 (by decide) ?_
                refine g_iconst (v := (-1)) C d_Mo_atom_45 (by decide) ?_
                refine g_iconst (v := (-1)) C d_Mo_atom_46 (by decide) ?_
                obtain ⟨hs59, hS⟩ := hS
                refine m_callV (n := 5) (av := [.int x1, .int 0, .int (-1), .int (-1), .int (-1)]) (rest := []) C hE (mc_Mo_add l D cs B dE mo ad _ _ _ _ _ _ hs59) km_Mo_213 kv_Mo_add kl_Mo_add kd_Mo_add ki_Mo ⟨rfl, by decide, by decide, by decide⟩ rfl ⟨rfl, rfl⟩ (by decide) (by decide) d_Mo_atom_47 (Nat.le_of_ble_eq_true rfl) _ rfl (fun v1 σ1 hv => ?_)
                obtain ⟨rfl, rfl⟩ := hv
                rw [mbind_eq] at hF hS
                generalize F_Mo_add w55.2 x1 0 (-1) (-1) (-1) = w58 at hF hS ⊢
                refine GW.eqs (st' := [.int w58.1]) rfl ?_
                refine g_istore (lv' := [(4, .int w58.1), (3, .int 0), (0, .ref mo), (1, .int x1), (2, .int x2)]) C d_Mo_atom_50 (by decide) rfl ?_
                refine g_aload_n C d_Mo_atom_52 rfl ?_
                refine m_geti C hE 4 (by decide) (by decide) kf_Mo_142 d_Mo_atom_53 ?_
                refine g_if_ne C 67 d_Mo_atom_56 (by decide) (fun hc60 => ?_) (fun hc60 => ?_)
                · rw [if_neg hc60] at hF hS
                  refine g_iload C d_Mo_atom_67 rfl ?_
                  exact m_iret C hr hlocks d_Mo_atom_69 (by rw [← hF]; exact ⟨rfl, rfl⟩)
                · rw [if_pos hc60] at hF hS
                  refine g_aload_n C d_Mo_atom_59 rfl ?_
                  refine m_geta C hE 6 (by decide) (by decide) (by decide) kf_Mo_13 d_Mo_atom_60 ?_
                  refine g_iload C d_Mo_atom_63 rfl ?_
                  refine g_iload_n C d_Mo_atom_65 rfl ?_
                  obtain ⟨hi61, hS⟩ := hS
                  refine m_ast C hE 6 (by decide) (by decide) hi61 d_Mo_atom_66 ?_
                  refine g_iload C d_Mo_atom_67 rfl ?_
                  exact m_iret C hr hlocks d_Mo_atom_69 (by rw [← hF]; exact ⟨rfl, rfl⟩)
              · rw [if_neg hc57] at hF hS
                refine g_iconst (v := 1) C d_Mo_atom_35 (by decide) ?_
                refine g_goto C 40 d_Mo_atom_36 (by decide) ?_
                refine g_istore_n (lv' := [(3, .int 1), (0, .ref mo), (1, .int x1), (2, .int x2)]) C d_Mo_atom_40 (by decide) rfl ?_
                refine g_aload_n C d_Mo_atom_41 rfl ?_
                refine g_iload_n C d_Mo_atom_42 rfl ?_
                refine g_iload_n C d_Mo_atom_43 rfl ?_
                refine g_iconst (v := (-1)) C d_Mo_atom_44 (by decide) ?_
                refine g_iconst (v := (-1)) C d_Mo_atom_45 (by decide) ?_
                refine g_iconst (v := (-1)) C d_Mo_atom_46 (by decide) ?_
                obtain ⟨hs63, hS⟩ := hS
                refine m_callV (n := 5) (av := [.int x1, .int 1, .int (-1), .int (-1), .int (-1)]) (rest := []) C hE (mc_Mo_add l D cs B dE mo ad _ _ _ _ _ _ hs63) km_Mo_213 kv_Mo_add kl_Mo_add kd_Mo_add ki_Mo ⟨rfl, by decide, by decide, by decide⟩ rfl ⟨rfl, rfl⟩ (by decide) (by decide) d_Mo_atom_47 (Nat.le_of_ble_eq_true rfl) _ rfl (fun v1 σ1 hv => ?_)
                obtain ⟨rfl, rfl⟩ := hv
                rw [mbind_eq] at hF hS
                generalize F_Mo_add w55.2 x1 1 (-1) (-1) (-1) = w62 at hF hS ⊢
                refine GW.eqs (st' := [.int w62.1]) rfl ?_
                refine g_istore (lv' := [(4, .int w62.1), (3, .int 1), (0, .ref mo), (1, .int x1), (2, .int x2)]) C d_Mo_atom_50 (by decide) rfl ?_
                refine g_aload_n C d_Mo_atom_52 rfl ?_
                refine m_geti C hE 4 (by decide) (by decide) kf_Mo_142 d_Mo_atom_53 ?_
                refine g_if_ne C 67 d_Mo_atom_56 (by decide) (fun hc64 => ?_) (fun hc64 => ?_)
                · rw [if_neg hc64] at hF hS
                  refine g_iload C d_Mo_atom_67 rfl ?_
                  exact m_iret C hr hlocks d_Mo_atom_69 (by rw [← hF]; exact ⟨rfl, rfl⟩)
                · rw [if_pos hc64] at hF hS
                  refine g_aload_n C d_Mo_atom_59 rfl ?_
                  refine m_geta C hE 6 (by decide) (by decide) (by decide) kf_Mo_13 d_Mo_atom_60 ?_
                  refine g_iload C d_Mo_atom_63 rfl ?_
                  refine g_iload_n C d_Mo_atom_65 rfl ?_
                  obtain ⟨hi65, hS⟩ := hS
                  refine m_ast C hE 6 (by decide) (by decide) hi65 d_Mo_atom_66 ?_
                  refine g_iload C d_Mo_atom_67 rfl ?_
                  exact m_iret C hr hlocks d_Mo_atom_69 (by rw [← hF]; exact ⟨rfl, rfl⟩)
def F_Mo_let (σ : mSt) (x1 : Int32) (x2 : Int32) (x3 : Int32) : Int32 × mSt := mbind (F_Mo_isName σ x1) (fun w1 => if w1.1 = 0 then (mbind (F_Mo_add w1.2 4 0 x2 x3 (-1)) (fun w4 => if (w4.2.1 4) = 0 then ((w4.1, mo_ai w4.2 6 w4.1.toNatClampNeg x1)) else ((w4.1, w4.2)))) else (mbind (F_Mo_isNode w1.2 x2) (fun w8 => if w8.1 = 0 then (mbind (F_Mo_add w8.2 4 0 x2 x3 (-1)) (fun w11 => if (w11.2.1 4) = 0 then ((w11.1, mo_ai w11.2 6 w11.1.toNatClampNeg x1)) else ((w11.1, w11.2)))) else (mbind (F_Mo_isNode w8.2 x3) (fun w15 => if w15.1 = 0 then (mbind (F_Mo_add w15.2 4 0 x2 x3 (-1)) (fun w18 => if (w18.2.1 4) = 0 then ((w18.1, mo_ai w18.2 6 w18.1.toNatClampNeg x1)) else ((w18.1, w18.2)))) else (mbind (F_Mo_add w15.2 4 1 x2 x3 (-1)) (fun w22 => if (w22.2.1 4) = 0 then ((w22.1, mo_ai w22.2 6 w22.1.toNatClampNeg x1)) else ((w22.1, w22.2)))))))))
def S_Mo_let (σ : mSt) (x1 : Int32) (x2 : Int32) (x3 : Int32) : Prop := (S_Mo_isName σ x1) ∧ (mbind (F_Mo_isName σ x1) (fun w1 => if w1.1 = 0 then ((S_Mo_add w1.2 4 0 x2 x3 (-1)) ∧ (mbind (F_Mo_add w1.2 4 0 x2 x3 (-1)) (fun w4 => if (w4.2.1 4) = 0 then ((vp_in w4.1 200) ∧ (True)) else (True)))) else ((S_Mo_isNode w1.2 x2) ∧ (mbind (F_Mo_isNode w1.2 x2) (fun w8 => if w8.1 = 0 then ((S_Mo_add w8.2 4 0 x2 x3 (-1)) ∧ (mbind (F_Mo_add w8.2 4 0 x2 x3 (-1)) (fun w11 => if (w11.2.1 4) = 0 then ((vp_in w11.1 200) ∧ (True)) else (True)))) else ((S_Mo_isNode w8.2 x3) ∧ (mbind (F_Mo_isNode w8.2 x3) (fun w15 => if w15.1 = 0 then ((S_Mo_add w15.2 4 0 x2 x3 (-1)) ∧ (mbind (F_Mo_add w15.2 4 0 x2 x3 (-1)) (fun w18 => if (w18.2.1 4) = 0 then ((vp_in w18.1 200) ∧ (True)) else (True)))) else ((S_Mo_add w15.2 4 1 x2 x3 (-1)) ∧ (mbind (F_Mo_add w15.2 4 1 x2 x3 (-1)) (fun w22 => if (w22.2.1 4) = 0 then ((vp_in w22.1 200) ∧ (True)) else (True))))))))))))
set_option maxRecDepth 100000 in
set_option maxHeartbeats 4000000 in
theorem mc_Mo_let (l : Launch) (D : va_G) (cs : Nat → ClassId) (B dE mo : Nat) (ad : Nat → Nat) (σ : mSt) (x1 : Int32) (x2 : Int32) (x3 : Int32) (hS : S_Mo_let σ x1 x2 x3) : mMet l y_Mo_let (Cond.code y_Mo_let c_Mo_let 5 (some .int)) ({ frames := 2, cells := 0, slots := 0, locals := 48 } : Room) D cs B dE mo ad [.ref mo, .int x1, .int x2, .int x3] σ (fun r σ' => r = some (.int (F_Mo_let σ x1 x2 x3).1) ∧ σ' = (F_Mo_let σ x1 x2 x3).2) := by
  refine mMet.ofW (by decide) rfl (Nat.le_of_ble_eq_true rfl) (lv0 := [(0, .ref mo), (1, .int x1), (2, .int x2), (3, .int x3)]) rfl ?_
  intro p e s m args below meth c M0 C hE hr hlocks
  generalize hF : F_Mo_let σ x1 x2 x3 = Fv
  unfold F_Mo_let at hF
  unfold S_Mo_let at hS
  refine g_aload_n C d_Mo_let_0 rfl ?_
  refine g_iconst (v := 4) C d_Mo_let_1 (by decide) ?_
  refine g_iload_n C d_Mo_let_2 rfl ?_
  obtain ⟨hs2, hS⟩ := hS
  refine m_callS (n := 1) (av := [.int x1]) (rest := [.int 4, .ref mo]) C hE (mc_Mo_isName l D cs B dE mo ad _ _ hs2) km_Mo_210 ks_Mo_isName kd_Mo_isName ki_Mo ⟨rfl, by decide, by decide, by decide⟩ rfl ⟨rfl, rfl⟩ (by decide) (by decide) d_Mo_let_3 (Nat.le_of_ble_eq_true rfl) _ rfl (fun v1 σ1 hv => ?_)
  obtain ⟨rfl, rfl⟩ := hv
  rw [mbind_eq] at hF hS
  generalize F_Mo_isName σ x1 = w1 at hF hS ⊢
  refine GW.eqs (st' := [.int w1.1, .int 4, .ref mo]) rfl ?_
  refine g_if_eq C 29 d_Mo_let_6 (by decide) (fun hc3 => ?_) (fun hc3 => ?_)
  · rw [if_pos hc3] at hF hS
    refine g_iconst (v := 0) C d_Mo_let_29 (by decide) ?_
    refine g_iload_n C d_Mo_let_30 rfl ?_
    refine g_iload_n C d_Mo_let_31 rfl ?_
    refine g_iconst (v := (-1)) C d_Mo_let_32 (by decide) ?_
    obtain ⟨hs5, hS⟩ := hS
    refine m_callV (n := 5) (av := [.int 4, .int 0, .int x2, .int x3, .int (-1)]) (rest := []) C hE (mc_Mo_add l D cs B dE mo ad _ _ _ _ _ _ hs5) km_Mo_213 kv_Mo_add kl_Mo_add kd_Mo_add ki_Mo ⟨rfl, by decide, by decide, by decide⟩ rfl ⟨rfl, rfl⟩ (by decide) (by decide) d_Mo_let_33 (Nat.le_of_ble_eq_true rfl) _ rfl (fun v1 σ1 hv => ?_)
    obtain ⟨rfl, rfl⟩ := hv
    rw [mbind_eq] at hF hS
    generalize F_Mo_add w1.2 4 0 x2 x3 (-1) = w4 at hF hS ⊢
    refine GW.eqs (st' := [.int w4.1]) rfl ?_
    refine g_istore (lv' := [(4, .int w4.1), (0, .ref mo), (1, .int x1), (2, .int x2), (3, .int x3)]) C d_Mo_let_36 (by decide) rfl ?_
    refine g_aload_n C d_Mo_let_38 rfl ?_
    refine m_geti C hE 4 (by decide) (by decide) kf_Mo_142 d_Mo_let_39 ?_
    refine g_if_ne C 53 d_Mo_let_42 (by decide) (fun hc6 => ?_) (fun hc6 => ?_)
    · rw [if_neg hc6] at hF hS
      refine g_iload C d_Mo_let_53 rfl ?_
      exact m_iret C hr hlocks d_Mo_let_55 (by rw [← hF]; exact ⟨rfl, rfl⟩)
    · rw [if_pos hc6] at hF hS
      refine g_aload_n C d_Mo_let_45 rfl ?_
      refine m_geta C hE 6 (by decide) (by decide) (by decide) kf_Mo_13 d_Mo_let_46 ?_
      refine g_iload C d_Mo_let_49 rfl ?_
      refine g_iload_n C d_Mo_let_51 rfl ?_
      obtain ⟨hi7, hS⟩ := hS
      refine m_ast C hE 6 (by decide) (by decide) hi7 d_Mo_let_52 ?_
      refine g_iload C d_Mo_let_53 rfl ?_
      exact m_iret C hr hlocks d_Mo_let_55 (by rw [← hF]; exact ⟨rfl, rfl⟩)
  · rw [if_neg hc3] at hF hS
    refine g_aload_n C d_Mo_let_9 rfl ?_
    refine g_iload_n C d_Mo_let_10 rfl ?_
    obtain ⟨hs9, hS⟩ := hS
    refine m_callV (n := 1) (av := [.int x2]) (rest := [.int 4, .ref mo]) C hE (mc_Mo_isNode l D cs B dE mo ad _ _ hs9) km_Mo_217 kv_Mo_isNode kl_Mo_isNode kd_Mo_isNode ki_Mo ⟨rfl, by decide, by decide, by decide⟩ rfl ⟨rfl, rfl⟩ (by decide) (by decide) d_Mo_let_11 (Nat.le_of_ble_eq_true rfl) _ rfl (fun v1 σ1 hv => ?_)
    obtain ⟨rfl, rfl⟩ := hv
    rw [mbind_eq] at hF hS
    generalize F_Mo_isNode w1.2 x2 = w8 at hF hS ⊢
    refine GW.eqs (st' := [.int w8.1, .int 4, .ref mo]) rfl ?_
    refine g_if_eq C 29 d_Mo_let_14 (by decide) (fun hc10 => ?_) (fun hc10 => ?_)
    · rw [if_pos hc10] at hF hS
      refine g_iconst (v := 0) C d_Mo_let_29 (by decide) ?_
      refine g_iload_n C d_Mo_let_30 rfl ?_
      refine g_iload_n C d_Mo_let_31 rfl ?_
      refine g_iconst (v := (-1)) C d_Mo_let_32 (by decide) ?_
      obtain ⟨hs12, hS⟩ := hS
      refine m_callV (n := 5) (av := [.int 4, .int 0, .int x2, .int x3, .int (-1)]) (rest := []) C hE (mc_Mo_add l D cs B dE mo ad _ _ _ _ _ _ hs12) km_Mo_213 kv_Mo_add kl_Mo_add kd_Mo_add ki_Mo ⟨rfl, by decide, by decide, by decide⟩ rfl ⟨rfl, rfl⟩ (by decide) (by decide) d_Mo_let_33 (Nat.le_of_ble_eq_true rfl) _ rfl (fun v1 σ1 hv => ?_)
      obtain ⟨rfl, rfl⟩ := hv
      rw [mbind_eq] at hF hS
      generalize F_Mo_add w8.2 4 0 x2 x3 (-1) = w11 at hF hS ⊢
      refine GW.eqs (st' := [.int w11.1]) rfl ?_
      refine g_istore (lv' := [(4, .int w11.1), (0, .ref mo), (1, .int x1), (2, .int x2), (3, .int x3)]) C d_Mo_let_36 (by decide) rfl ?_
      refine g_aload_n C d_Mo_let_38 rfl ?_
      refine m_geti C hE 4 (by decide) (by decide) kf_Mo_142 d_Mo_let_39 ?_
      refine g_if_ne C 53 d_Mo_let_42 (by decide) (fun hc13 => ?_) (fun hc13 => ?_)
      · rw [if_neg hc13] at hF hS
        refine g_iload C d_Mo_let_53 rfl ?_
        exact m_iret C hr hlocks d_Mo_let_55 (by rw [← hF]; exact ⟨rfl, rfl⟩)
      · rw [if_pos hc13] at hF hS
        refine g_aload_n C d_Mo_let_45 rfl ?_
        refine m_geta C hE 6 (by decide) (by decide) (by decide) kf_Mo_13 d_Mo_let_46 ?_
        refine g_iload C d_Mo_let_49 rfl ?_
        refine g_iload_n C d_Mo_let_51 rfl ?_
        obtain ⟨hi14, hS⟩ := hS
        refine m_ast C hE 6 (by decide) (by decide) hi14 d_Mo_let_52 ?_
        refine g_iload C d_Mo_let_53 rfl ?_
        exact m_iret C hr hlocks d_Mo_let_55 (by rw [← hF]; exact ⟨rfl, rfl⟩)
    · rw [if_neg hc10] at hF hS
      refine g_aload_n C d_Mo_let_17 rfl ?_
      refine g_iload_n C d_Mo_let_18 rfl ?_
      obtain ⟨hs16, hS⟩ := hS
      refine m_callV (n := 1) (av := [.int x3]) (rest := [.int 4, .ref mo]) C hE (mc_Mo_isNode l D cs B dE mo ad _ _ hs16) km_Mo_217 kv_Mo_isNode kl_Mo_isNode kd_Mo_isNode ki_Mo ⟨rfl, by decide, by decide, by decide⟩ rfl ⟨rfl, rfl⟩ (by decide) (by decide) d_Mo_let_19 (Nat.le_of_ble_eq_true rfl) _ rfl (fun v1 σ1 hv => ?_)
      obtain ⟨rfl, rfl⟩ := hv
      rw [mbind_eq] at hF hS
      generalize F_Mo_isNode w8.2 x3 = w15 at hF hS ⊢
      refine GW.eqs (st' := [.int w15.1, .int 4, .ref mo]) rfl ?_
      refine g_if_eq C 29 d_Mo_let_22 (by decide) (fun hc17 => ?_) (fun hc17 => ?_)
      · rw [if_pos hc17] at hF hS
        refine g_iconst (v := 0) C d_Mo_let_29 (by decide) ?_
        refine g_iload_n C d_Mo_let_30 rfl ?_
        refine g_iload_n C d_Mo_let_31 rfl ?_
        refine g_iconst (v := (-1)) C d_Mo_let_32 (by decide) ?_
        obtain ⟨hs19, hS⟩ := hS
        refine m_callV (n := 5) (av := [.int 4, .int 0, .int x2, .int x3, .int (-1)]) (rest := []) C hE (mc_Mo_add l D cs B dE mo ad _ _ _ _ _ _ hs19) km_Mo_213 kv_Mo_add kl_Mo_add kd_Mo_add ki_Mo ⟨rfl, by decide, by decide, by decide⟩ rfl ⟨rfl, rfl⟩ (by decide) (by decide) d_Mo_let_33 (Nat.le_of_ble_eq_true rfl) _ rfl (fun v1 σ1 hv => ?_)
        obtain ⟨rfl, rfl⟩ := hv
        rw [mbind_eq] at hF hS
        generalize F_Mo_add w15.2 4 0 x2 x3 (-1) = w18 at hF hS ⊢
        refine GW.eqs (st' := [.int w18.1]) rfl ?_
        refine g_istore (lv' := [(4, .int w18.1), (0, .ref mo), (1, .int x1), (2, .int x2), (3, .int x3)]) C d_Mo_let_36 (by decide) rfl ?_
        refine g_aload_n C d_Mo_let_38 rfl ?_
        refine m_geti C hE 4 (by decide) (by decide) kf_Mo_142 d_Mo_let_39 ?_
        refine g_if_ne C 53 d_Mo_let_42 (by decide) (fun hc20 => ?_) (fun hc20 => ?_)
        · rw [if_neg hc20] at hF hS
          refine g_iload C d_Mo_let_53 rfl ?_
          exact m_iret C hr hlocks d_Mo_let_55 (by rw [← hF]; exact ⟨rfl, rfl⟩)
        · rw [if_pos hc20] at hF hS
          refine g_aload_n C d_Mo_let_45 rfl ?_
          refine m_geta C hE 6 (by decide) (by decide) (by decide) kf_Mo_13 d_Mo_let_46 ?_
          refine g_iload C d_Mo_let_49 rfl ?_
          refine g_iload_n C d_Mo_let_51 rfl ?_
          obtain ⟨hi21, hS⟩ := hS
          refine m_ast C hE 6 (by decide) (by decide) hi21 d_Mo_let_52 ?_
          refine g_iload C d_Mo_let_53 rfl ?_
          exact m_iret C hr hlocks d_Mo_let_55 (by rw [← hF]; exact ⟨rfl, rfl⟩)
      · rw [if_neg hc17] at hF hS
        refine g_iconst (v := 1) C d_Mo_let_25 (by decide) ?_
        refine g_goto C 30 d_Mo_let_26 (by decide) ?_
        refine g_iload_n C d_Mo_let_30 rfl ?_
        refine g_iload_n C d_Mo_let_31 rfl ?_
        refine g_iconst (v := (-1)) C d_Mo_let_32 (by decide) ?_
        obtain ⟨hs23, hS⟩ := hS
        refine m_callV (n := 5) (av := [.int 4, .int 1, .int x2, .int x3, .int (-1)]) (rest := []) C hE (mc_Mo_add l D cs B dE mo ad _ _ _ _ _ _ hs23) km_Mo_213 kv_Mo_add kl_Mo_add kd_Mo_add ki_Mo ⟨rfl, by decide, by decide, by decide⟩ rfl ⟨rfl, rfl⟩ (by decide) (by decide) d_Mo_let_33 (Nat.le_of_ble_eq_true rfl) _ rfl (fun v1 σ1 hv => ?_)
        obtain ⟨rfl, rfl⟩ := hv
        rw [mbind_eq] at hF hS
        generalize F_Mo_add w15.2 4 1 x2 x3 (-1) = w22 at hF hS ⊢
        refine GW.eqs (st' := [.int w22.1]) rfl ?_
        refine g_istore (lv' := [(4, .int w22.1), (0, .ref mo), (1, .int x1), (2, .int x2), (3, .int x3)]) C d_Mo_let_36 (by decide) rfl ?_
        refine g_aload_n C d_Mo_let_38 rfl ?_
        refine m_geti C hE 4 (by decide) (by decide) kf_Mo_142 d_Mo_let_39 ?_
        refine g_if_ne C 53 d_Mo_let_42 (by decide) (fun hc24 => ?_) (fun hc24 => ?_)
        · rw [if_neg hc24] at hF hS
          refine g_iload C d_Mo_let_53 rfl ?_
          exact m_iret C hr hlocks d_Mo_let_55 (by rw [← hF]; exact ⟨rfl, rfl⟩)
        · rw [if_pos hc24] at hF hS
          refine g_aload_n C d_Mo_let_45 rfl ?_
          refine m_geta C hE 6 (by decide) (by decide) (by decide) kf_Mo_13 d_Mo_let_46 ?_
          refine g_iload C d_Mo_let_49 rfl ?_
          refine g_iload_n C d_Mo_let_51 rfl ?_
          obtain ⟨hi25, hS⟩ := hS
          refine m_ast C hE 6 (by decide) (by decide) hi25 d_Mo_let_52 ?_
          refine g_iload C d_Mo_let_53 rfl ?_
          exact m_iret C hr hlocks d_Mo_let_55 (by rw [← hF]; exact ⟨rfl, rfl⟩)
def F_Mo_wrong (σ : mSt) (x1 : Int32) (x2 : Int32) : mSt := if (σ.1 34) = 0 then (mo_si (mo_si σ 34 x1) 35 x2) else (σ)
def S_Mo_wrong (σ : mSt) (x1 : Int32) (x2 : Int32) : Prop := if (σ.1 34) = 0 then (True) else (True)
set_option maxRecDepth 100000 in
set_option maxHeartbeats 4000000 in
theorem mc_Mo_wrong (l : Launch) (D : va_G) (cs : Nat → ClassId) (B dE mo : Nat) (ad : Nat → Nat) (σ : mSt) (x1 : Int32) (x2 : Int32) (hS : S_Mo_wrong σ x1 x2) : mMet l y_Mo_wrong (Cond.code y_Mo_wrong c_Mo_wrong 3 none) ({ frames := 0, cells := 0, slots := 0, locals := 0 } : Room) D cs B dE mo ad [.ref mo, .int x1, .int x2] σ (fun r σ' => r = none ∧ σ' = F_Mo_wrong σ x1 x2) := by
  refine mMet.ofW (by decide) rfl (Nat.le_of_ble_eq_true rfl) (lv0 := [(0, .ref mo), (1, .int x1), (2, .int x2)]) rfl ?_
  intro p e s m args below meth c M0 C hE hr hlocks
  generalize hF : F_Mo_wrong σ x1 x2 = Fv
  unfold F_Mo_wrong at hF
  unfold S_Mo_wrong at hS
  refine g_aload_n C d_Mo_wrong_0 rfl ?_
  refine m_geti C hE 34 (by decide) (by decide) kf_Mo_164 d_Mo_wrong_1 ?_
  refine g_if_eq C 8 d_Mo_wrong_4 (by decide) (fun hc1 => ?_) (fun hc1 => ?_)
  · rw [if_pos hc1] at hF hS
    refine g_aload_n C d_Mo_wrong_8 rfl ?_
    refine g_iload_n C d_Mo_wrong_9 rfl ?_
    refine m_puti C hE 34 (by decide) (by decide) rfl rfl kf_Mo_164 d_Mo_wrong_10 ?_
    refine g_aload_n C d_Mo_wrong_13 rfl ?_
    refine g_iload_n C d_Mo_wrong_14 rfl ?_
    refine m_puti C hE 35 (by decide) (by decide) rfl rfl kf_Mo_167 d_Mo_wrong_15 ?_
    exact m_vret C hr hlocks d_Mo_wrong_18 (by rw [← hF]; exact ⟨rfl, rfl⟩)
  · rw [if_neg hc1] at hF hS
    exact m_vret C hr hlocks d_Mo_wrong_7 (by rw [← hF]; exact ⟨rfl, rfl⟩)
def F_Mo_into_35 : Nat → mSt → Int32 → Int32 → mSt
  | 0, σ, _, _ => σ
  | n + 1, σ, x2, x3 => if 10 ≤ x3 then (mo_si σ 31 ((σ.1 31) + 1)) else (if x2 = 0 then (F_Mo_into_35 n (mo_ai σ 30 ((10 * x2) + x3).toNatClampNeg (-1)) x2 (x3 + 1)) else (F_Mo_into_35 n (mo_ai σ 30 ((10 * x2) + x3).toNatClampNeg (σ.2.2.1 30 ((10 * (x2 - 1)) + x3).toNatClampNeg)) x2 (x3 + 1)))
def S_Mo_into_35 : Nat → mSt → Int32 → Int32 → Prop
  | 0, _, _, _ => False
  | n + 1, σ, x2, x3 => if 10 ≤ x3 then (True) else (if x2 = 0 then ((vp_in ((10 * x2) + x3) 450) ∧ (S_Mo_into_35 n (mo_ai σ 30 ((10 * x2) + x3).toNatClampNeg (-1)) x2 (x3 + 1))) else ((vp_in ((10 * (x2 - 1)) + x3) 450) ∧ ((vp_in ((10 * x2) + x3) 450) ∧ (S_Mo_into_35 n (mo_ai σ 30 ((10 * x2) + x3).toNatClampNeg (σ.2.2.1 30 ((10 * (x2 - 1)) + x3).toNatClampNeg)) x2 (x3 + 1)))))
set_option maxRecDepth 100000 in
set_option maxHeartbeats 4000000 in
theorem w_Mo_into_35 {p : Program} {l : Launch} {e : Env} {s : State} {m : MethodId} {args : Array Value} {below : List Frame} {meth : Method} {c : Code} {D : va_G} {cs : Nat → ClassId} {B dE mo : Nat} {ad : Nat → Nat} {M0 : gMem} (C : CallFix p m c c_Mo_into 4 s args gT R_Mo) (hE : gEnv D gcl (gtys cs) gz B dE s) (hr : meth.sig.returnType = none) (hlocks : meth.locks = false) (n : Nat) (σ : mSt) (x2 : Int32) (x3 : Int32) (Fv : mSt) (hS : S_Mo_into_35 n σ x2 x3) (hF : F_Mo_into_35 n σ x2 x3 = Fv) : GW p l e ({ frames := 0, cells := 0, slots := 0, locals := 0 } : Room) s m args below meth c 4 (gA B) (mQ below D cs B mo ad M0 (fun r σ' => r = none ∧ σ' = Fv) args s) (mo_P D B cs mo ad M0 σ) 0 0 35 [(0, .ref mo), (2, .int x2), (3, .int x3)] [] := by
  induction n generalizing σ x2 x3 Fv with
  | zero => exact hS.elim
  | succ n ih =>
    unfold F_Mo_into_35 at hF
    unfold S_Mo_into_35 at hS
    refine g_iload_n C d_Mo_into_35 rfl ?_
    refine g_bipush (v := 10) C d_Mo_into_36 (by decide) ?_
    refine g_icmp_ge C 79 d_Mo_into_38 (by decide) (fun hc1 => ?_) (fun hc1 => ?_)
    · rw [if_pos hc1] at hF hS
      refine g_aload_n C d_Mo_into_79 rfl ?_
      refine g_dup C d_Mo_into_80 rfl ?_
      refine m_geti C hE 31 (by decide) (by decide) kf_Mo_220 d_Mo_into_81 ?_
      refine g_iconst (v := 1) C d_Mo_into_84 (by decide) ?_
      refine g_iadd C d_Mo_into_85 ?_
      refine m_puti C hE 31 (by decide) (by decide) rfl rfl kf_Mo_220 d_Mo_into_86 ?_
      exact m_vret C hr hlocks d_Mo_into_89 (by rw [← hF]; exact ⟨rfl, rfl⟩)
    · rw [if_neg hc1] at hF hS
      refine g_aload_n C d_Mo_into_41 rfl ?_
      refine m_geta C hE 30 (by decide) (by decide) (by decide) kf_Mo_87 d_Mo_into_42 ?_
      refine g_bipush (v := 10) C d_Mo_into_45 (by decide) ?_
      refine g_iload_n C d_Mo_into_47 rfl ?_
      refine g_imul C d_Mo_into_48 ?_
      refine g_iload_n C d_Mo_into_49 rfl ?_
      refine g_iadd C d_Mo_into_50 ?_
      refine g_iload_n C d_Mo_into_51 rfl ?_
      refine g_if_ne C 59 d_Mo_into_52 (by decide) (fun hc2 => ?_) (fun hc2 => ?_)
      · rw [if_neg hc2] at hF hS
        refine g_aload_n C d_Mo_into_59 rfl ?_
        refine m_geta C hE 30 (by decide) (by decide) (by decide) kf_Mo_87 d_Mo_into_60 ?_
        refine g_bipush (v := 10) C d_Mo_into_63 (by decide) ?_
        refine g_iload_n C d_Mo_into_65 rfl ?_
        refine g_iconst (v := 1) C d_Mo_into_66 (by decide) ?_
        refine g_isub C d_Mo_into_67 ?_
        refine g_imul C d_Mo_into_68 ?_
        refine g_iload_n C d_Mo_into_69 rfl ?_
        refine g_iadd C d_Mo_into_70 ?_
        obtain ⟨hi3, hS⟩ := hS
        refine m_ald C hE 30 (by decide) (by decide) hi3 d_Mo_into_71 ?_
        obtain ⟨hi4, hS⟩ := hS
        refine m_ast C hE 30 (by decide) (by decide) hi4 d_Mo_into_72 ?_
        refine g_iinc (v := x3 + 1) (lv' := [(3, .int (x3 + 1)), (0, .ref mo), (2, .int x2)]) C d_Mo_into_73 rfl rfl (by decide) rfl ?_
        refine g_goto C 35 d_Mo_into_76 (by decide) ?_
        refine GW.subl [1, 2, 0] rfl ?_
        exact ih (mo_ai σ 30 ((10 * x2) + x3).toNatClampNeg (σ.2.2.1 30 ((10 * (x2 - 1)) + x3).toNatClampNeg)) x2 (x3 + 1) Fv hS hF
      · rw [if_pos hc2] at hF hS
        refine g_iconst (v := (-1)) C d_Mo_into_55 (by decide) ?_
        refine g_goto C 72 d_Mo_into_56 (by decide) ?_
        obtain ⟨hi5, hS⟩ := hS
        refine m_ast C hE 30 (by decide) (by decide) hi5 d_Mo_into_72 ?_
        refine g_iinc (v := x3 + 1) (lv' := [(3, .int (x3 + 1)), (0, .ref mo), (2, .int x2)]) C d_Mo_into_73 rfl rfl (by decide) rfl ?_
        refine g_goto C 35 d_Mo_into_76 (by decide) ?_
        refine GW.subl [1, 2, 0] rfl ?_
        exact ih (mo_ai σ 30 ((10 * x2) + x3).toNatClampNeg (-1)) x2 (x3 + 1) Fv hS hF
def F_Mo_into (n : Nat) (σ : mSt) (x1 : Int32) : mSt := F_Mo_into_35 n (mo_ai (mo_ai (mo_ai (mo_ai σ 26 (σ.1 31).toNatClampNeg x1) 27 (σ.1 31).toNatClampNeg 0) 29 (σ.1 31).toNatClampNeg 0) 28 (σ.1 31).toNatClampNeg 0) (σ.1 31) 0
def S_Mo_into (n : Nat) (σ : mSt) (x1 : Int32) : Prop := (vp_in (σ.1 31) 45) ∧ ((vp_in (σ.1 31) 45) ∧ ((vp_in (σ.1 31) 45) ∧ ((vp_in (σ.1 31) 45) ∧ (S_Mo_into_35 n (mo_ai (mo_ai (mo_ai (mo_ai σ 26 (σ.1 31).toNatClampNeg x1) 27 (σ.1 31).toNatClampNeg 0) 29 (σ.1 31).toNatClampNeg 0) 28 (σ.1 31).toNatClampNeg 0) (σ.1 31) 0))))
set_option maxRecDepth 100000 in
set_option maxHeartbeats 4000000 in
theorem mc_Mo_into (l : Launch) (D : va_G) (cs : Nat → ClassId) (B dE mo : Nat) (ad : Nat → Nat) (n : Nat) (σ : mSt) (x1 : Int32) (hS : S_Mo_into n σ x1) : mMet l y_Mo_into (Cond.code y_Mo_into c_Mo_into 4 none) ({ frames := 0, cells := 0, slots := 0, locals := 0 } : Room) D cs B dE mo ad [.ref mo, .int x1] σ (fun r σ' => r = none ∧ σ' = F_Mo_into n σ x1) := by
  refine mMet.ofW (by decide) rfl (Nat.le_of_ble_eq_true rfl) (lv0 := [(0, .ref mo), (1, .int x1)]) rfl ?_
  intro p e s m args below meth c M0 C hE hr hlocks
  generalize hF : F_Mo_into n σ x1 = Fv
  unfold F_Mo_into at hF
  unfold S_Mo_into at hS
  refine g_aload_n C d_Mo_into_0 rfl ?_
  refine m_geti C hE 31 (by decide) (by decide) kf_Mo_220 d_Mo_into_1 ?_
  refine g_istore_n (lv' := [(2, .int (σ.1 31)), (0, .ref mo), (1, .int x1)]) C d_Mo_into_4 (by decide) rfl ?_
  refine g_aload_n C d_Mo_into_5 rfl ?_
  refine m_geta C hE 26 (by decide) (by decide) (by decide) kf_Mo_75 d_Mo_into_6 ?_
  refine g_iload_n C d_Mo_into_9 rfl ?_
  refine g_iload_n C d_Mo_into_10 rfl ?_
  obtain ⟨hi6, hS⟩ := hS
  refine m_ast C hE 26 (by decide) (by decide) hi6 d_Mo_into_11 ?_
  refine g_aload_n C d_Mo_into_12 rfl ?_
  refine m_geta C hE 27 (by decide) (by decide) (by decide) kf_Mo_78 d_Mo_into_13 ?_
  refine g_iload_n C d_Mo_into_16 rfl ?_
  refine g_iconst (v := 0) C d_Mo_into_17 (by decide) ?_
  obtain ⟨hi7, hS⟩ := hS
  refine m_ast C hE 27 (by decide) (by decide) hi7 d_Mo_into_18 ?_
  refine g_aload_n C d_Mo_into_19 rfl ?_
  refine m_geta C hE 29 (by decide) (by decide) (by decide) kf_Mo_84 d_Mo_into_20 ?_
  refine g_iload_n C d_Mo_into_23 rfl ?_
  refine g_iconst (v := 0) C d_Mo_into_24 (by decide) ?_
  obtain ⟨hi8, hS⟩ := hS
  refine m_ast C hE 29 (by decide) (by decide) hi8 d_Mo_into_25 ?_
  refine g_aload_n C d_Mo_into_26 rfl ?_
  refine m_geta C hE 28 (by decide) (by decide) (by decide) kf_Mo_81 d_Mo_into_27 ?_
  refine g_iload_n C d_Mo_into_30 rfl ?_
  refine g_iconst (v := 0) C d_Mo_into_31 (by decide) ?_
  obtain ⟨hi9, hS⟩ := hS
  refine m_ast C hE 28 (by decide) (by decide) hi9 d_Mo_into_32 ?_
  refine g_iconst (v := 0) C d_Mo_into_33 (by decide) ?_
  refine g_istore_n (lv' := [(3, .int 0), (2, .int (σ.1 31)), (0, .ref mo), (1, .int x1)]) C d_Mo_into_34 (by decide) rfl ?_
  refine GW.subl [2, 1, 0] rfl ?_
  exact w_Mo_into_35 C hE hr hlocks n (mo_ai (mo_ai (mo_ai (mo_ai σ 26 (σ.1 31).toNatClampNeg x1) 27 (σ.1 31).toNatClampNeg 0) 29 (σ.1 31).toNatClampNeg 0) 28 (σ.1 31).toNatClampNeg 0) (σ.1 31) 0 Fv hS hF
def F_Mo_intoWith (n : Nat) (σ : mSt) (x1 : Int32) (x2 : Int32) (x3 : Int32) : mSt := mbind (F_Mo_into n σ x1) (fun w1 => mo_ai w1 30 ((10 * ((w1.1 31) - 1)) + x2).toNatClampNeg x3)
def S_Mo_intoWith (n : Nat) (σ : mSt) (x1 : Int32) (x2 : Int32) (x3 : Int32) : Prop := (S_Mo_into n σ x1) ∧ (mbind (F_Mo_into n σ x1) (fun w1 => (vp_in ((10 * ((w1.1 31) - 1)) + x2) 450) ∧ (True)))
set_option maxRecDepth 100000 in
set_option maxHeartbeats 4000000 in
theorem mc_Mo_intoWith (l : Launch) (D : va_G) (cs : Nat → ClassId) (B dE mo : Nat) (ad : Nat → Nat) (n : Nat) (σ : mSt) (x1 : Int32) (x2 : Int32) (x3 : Int32) (hS : S_Mo_intoWith n σ x1 x2 x3) : mMet l y_Mo_intoWith (Cond.code y_Mo_intoWith c_Mo_intoWith 4 none) ({ frames := 1, cells := 0, slots := 0, locals := 23 } : Room) D cs B dE mo ad [.ref mo, .int x1, .int x2, .int x3] σ (fun r σ' => r = none ∧ σ' = F_Mo_intoWith n σ x1 x2 x3) := by
  refine mMet.ofW (by decide) rfl (Nat.le_of_ble_eq_true rfl) (lv0 := [(0, .ref mo), (1, .int x1), (2, .int x2), (3, .int x3)]) rfl ?_
  intro p e s m args below meth c M0 C hE hr hlocks
  generalize hF : F_Mo_intoWith n σ x1 x2 x3 = Fv
  unfold F_Mo_intoWith at hF
  unfold S_Mo_intoWith at hS
  refine g_aload_n C d_Mo_intoWith_0 rfl ?_
  refine g_iload_n C d_Mo_intoWith_1 rfl ?_
  obtain ⟨hs2, hS⟩ := hS
  refine m_callV (n := 1) (av := [.int x1]) (rest := []) C hE (mc_Mo_into l D cs B dE mo ad n _ _ hs2) km_Mo_223 kv_Mo_into kl_Mo_into kd_Mo_into ki_Mo ⟨rfl, by decide, by decide, by decide⟩ rfl ⟨rfl, rfl⟩ (by decide) (by decide) d_Mo_intoWith_2 (Nat.le_of_ble_eq_true rfl) _ rfl (fun v1 σ1 hv => ?_)
  obtain ⟨rfl, rfl⟩ := hv
  rw [mbind_eq] at hF hS
  generalize F_Mo_into n σ x1 = w1 at hF hS ⊢
  refine GW.eqs (st' := []) rfl ?_
  refine g_aload_n C d_Mo_intoWith_5 rfl ?_
  refine m_geta C hE 30 (by decide) (by decide) (by decide) kf_Mo_87 d_Mo_intoWith_6 ?_
  refine g_bipush (v := 10) C d_Mo_intoWith_9 (by decide) ?_
  refine g_aload_n C d_Mo_intoWith_11 rfl ?_
  refine m_geti C hE 31 (by decide) (by decide) kf_Mo_220 d_Mo_intoWith_12 ?_
  refine g_iconst (v := 1) C d_Mo_intoWith_15 (by decide) ?_
  refine g_isub C d_Mo_intoWith_16 ?_
  refine g_imul C d_Mo_intoWith_17 ?_
  refine g_iload_n C d_Mo_intoWith_18 rfl ?_
  refine g_iadd C d_Mo_intoWith_19 ?_
  refine g_iload_n C d_Mo_intoWith_20 rfl ?_
  obtain ⟨hi3, hS⟩ := hS
  refine m_ast C hE 30 (by decide) (by decide) hi3 d_Mo_intoWith_21 ?_
  exact m_vret C hr hlocks d_Mo_intoWith_22 (by rw [← hF]; exact ⟨rfl, rfl⟩)
def F_Mo_ends (σ : mSt) (x1 : Int32) (x2 : Int32) : mSt := mo_si (mo_si (mo_si σ 32 x1) 33 x2) 31 (((mo_si (mo_si σ 32 x1) 33 x2).1 31) - 1)
def S_Mo_ends (σ : mSt) (x1 : Int32) (x2 : Int32) : Prop := True
set_option maxRecDepth 100000 in
set_option maxHeartbeats 4000000 in
theorem mc_Mo_ends (l : Launch) (D : va_G) (cs : Nat → ClassId) (B dE mo : Nat) (ad : Nat → Nat) (σ : mSt) (x1 : Int32) (x2 : Int32) (hS : S_Mo_ends σ x1 x2) : mMet l y_Mo_ends (Cond.code y_Mo_ends c_Mo_ends 3 none) ({ frames := 0, cells := 0, slots := 0, locals := 0 } : Room) D cs B dE mo ad [.ref mo, .int x1, .int x2] σ (fun r σ' => r = none ∧ σ' = F_Mo_ends σ x1 x2) := by
  refine mMet.ofW (by decide) rfl (Nat.le_of_ble_eq_true rfl) (lv0 := [(0, .ref mo), (1, .int x1), (2, .int x2)]) rfl ?_
  intro p e s m args below meth c M0 C hE hr hlocks
  generalize hF : F_Mo_ends σ x1 x2 = Fv
  unfold F_Mo_ends at hF
  unfold S_Mo_ends at hS
  refine g_aload_n C d_Mo_ends_0 rfl ?_
  refine g_iload_n C d_Mo_ends_1 rfl ?_
  refine m_puti C hE 32 (by decide) (by decide) rfl rfl kf_Mo_227 d_Mo_ends_2 ?_
  refine g_aload_n C d_Mo_ends_5 rfl ?_
  refine g_iload_n C d_Mo_ends_6 rfl ?_
  refine m_puti C hE 33 (by decide) (by decide) rfl rfl kf_Mo_230 d_Mo_ends_7 ?_
  refine g_aload_n C d_Mo_ends_10 rfl ?_
  refine g_dup C d_Mo_ends_11 rfl ?_
  refine m_geti C hE 31 (by decide) (by decide) kf_Mo_220 d_Mo_ends_12 ?_
  refine g_iconst (v := 1) C d_Mo_ends_15 (by decide) ?_
  refine g_isub C d_Mo_ends_16 ?_
  refine m_puti C hE 31 (by decide) (by decide) rfl rfl kf_Mo_220 d_Mo_ends_17 ?_
  exact m_vret C hr hlocks d_Mo_ends_20 (by rw [← hF]; exact ⟨rfl, rfl⟩)
