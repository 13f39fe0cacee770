/-! the reference's methods as functions over its state: by program (wip/tools/decomp.py) -/
def F_Mo_thrown (σ : mSt) : Int32 × mSt := (σ.1 4, σ)
def S_Mo_thrown (σ : mSt) : Prop := True
set_option maxRecDepth 100000 in
set_option maxHeartbeats 4000000 in
theorem mc_Mo_thrown (l : Launch) (D : va_G) (cs : Nat → ClassId) (B : Nat) (dE : Nat × Nat) (mo : Nat) (ad : Nat → Nat) (σ : mSt) (hS : S_Mo_thrown σ) : mMet l y_Mo_thrown (Cond.code y_Mo_thrown c_Mo_thrown 1 (some .int)) ({ frames := 0, cells := 0, slots := 0, locals := 0 } : Room) D cs B dE mo ad [.ref mo] σ (fun r σ' => r = some (.int (F_Mo_thrown σ).1) ∧ σ' = (F_Mo_thrown σ).2) := by
  refine mMet.ofW (by decide) rfl (Nat.le_of_ble_eq_true rfl) (lv0 := [(0, .ref mo)]) rfl ?_
  intro p e s m args below meth c M0 C hE hr hlocks
  generalize hF : F_Mo_thrown σ = Fv
  unfold F_Mo_thrown at hF
  unfold S_Mo_thrown at hS
  refine g_aload_n C d_Mo_thrown_0 rfl ?_
  refine m_geti C hE 4 (by decide) (by decide) kf_Mo_142 d_Mo_thrown_1 ?_
  exact m_iret C hr hlocks d_Mo_thrown_4 (by rw [← hF]; exact ⟨rfl, rfl⟩)
def F_Mo_clear_27 : Nat → mSt → Int32 → mSt
  | 0, σ, _ => σ
  | n + 1, σ, x1 => if 8 ≤ x1 then (σ) else (F_Mo_clear_27 n (mo_ai (mo_ai σ 24 x1.toNatClampNeg 0) 25 x1.toNatClampNeg 0) (x1 + 1))
def S_Mo_clear_27 : Nat → mSt → Int32 → Prop
  | 0, _, _ => False
  | n + 1, σ, x1 => if 8 ≤ x1 then (True) else ((vp_in x1 8) ∧ ((vp_in x1 8) ∧ (S_Mo_clear_27 n (mo_ai (mo_ai σ 24 x1.toNatClampNeg 0) 25 x1.toNatClampNeg 0) (x1 + 1))))
set_option maxRecDepth 100000 in
set_option maxHeartbeats 4000000 in
theorem w_Mo_clear_27 {p : Program} {l : Launch} {e : Env} {s : State} {m : MethodId} {args : Array Value} {below : List Frame} {meth : Method} {c : Code} {D : va_G} {cs : Nat → ClassId} {B : Nat} {dE : Nat × Nat} {mo : Nat} {ad : Nat → Nat} {M0 : gMem} {Q : State → Prop} (C : CallFix p m c c_Mo_clear 3 s args gT R_Mo) (hE : gEnv D gcl (gtys cs) gz B dE s) (n : Nat) (σ : mSt) (x1 : Int32) (Fv : mSt) (hS : S_Mo_clear_27 n σ x1) (hF : F_Mo_clear_27 n σ x1 = Fv) (hk : GW p l e ({ frames := 0, cells := 0, slots := 0, locals := 0 } : Room) s m args below meth c 3 (gA B) Q (mo_P D B cs mo ad M0 Fv) 0 0 53 [(0, .ref mo)] []) : GW p l e ({ frames := 0, cells := 0, slots := 0, locals := 0 } : Room) s m args below meth c 3 (gA B) Q (mo_P D B cs mo ad M0 σ) 0 0 27 [(0, .ref mo), (1, .int x1)] [] := by
  induction n generalizing σ x1 Fv with
  | zero => exact hS.elim
  | succ n ih =>
    unfold F_Mo_clear_27 at hF
    unfold S_Mo_clear_27 at hS
    refine g_iload_n C d_Mo_clear_27 rfl ?_
    refine g_bipush (v := 8) C d_Mo_clear_28 (by decide) ?_
    refine g_icmp_ge C 53 d_Mo_clear_30 (by decide) (fun hc5 => ?_) (fun hc5 => ?_)
    · rw [if_pos hc5] at hF hS
      refine GW.subl [0] rfl ?_
      rw [← hF] at hk
      exact hk
    · rw [if_neg hc5] at hF hS
      refine g_aload_n C d_Mo_clear_33 rfl ?_
      refine m_geta C hE 24 (by decide) (by decide) (by decide) kf_Mo_69 d_Mo_clear_34 ?_
      refine g_iload_n C d_Mo_clear_37 rfl ?_
      refine g_iconst (v := 0) C d_Mo_clear_38 (by decide) ?_
      obtain ⟨hi6, hS⟩ := hS
      refine m_ast C hE 24 (by decide) (by decide) hi6 d_Mo_clear_39 ?_
      refine g_aload_n C d_Mo_clear_40 rfl ?_
      refine m_geta C hE 25 (by decide) (by decide) (by decide) kf_Mo_72 d_Mo_clear_41 ?_
      refine g_iload_n C d_Mo_clear_44 rfl ?_
      refine g_iconst (v := 0) C d_Mo_clear_45 (by decide) ?_
      obtain ⟨hi7, hS⟩ := hS
      refine m_ast C hE 25 (by decide) (by decide) hi7 d_Mo_clear_46 ?_
      refine g_iinc (v := x1 + 1) (lv' := [(1, .int (x1 + 1)), (0, .ref mo)]) C d_Mo_clear_47 rfl rfl (by decide) rfl ?_
      refine g_goto C 27 d_Mo_clear_50 (by decide) ?_
      refine GW.subl [1, 0] rfl ?_
      exact ih (mo_ai (mo_ai σ 24 x1.toNatClampNeg 0) 25 x1.toNatClampNeg 0) (x1 + 1) Fv hS hF hk
def F_Mo_clear_62 : Nat → mSt → Int32 → Int32 → mSt × Int32
  | 0, σ, _, _ => (σ, 0)
  | n + 1, σ, x1, x2 => if 3 ≤ x2 then ((σ, x1)) else (if x1 = x2 then (F_Mo_clear_62 n (mo_ai σ 23 ((520 * x1) + x2).toNatClampNeg 1) x1 (x2 + 1)) else (F_Mo_clear_62 n (mo_ai σ 23 ((520 * x1) + x2).toNatClampNeg 0) x1 (x2 + 1)))
def S_Mo_clear_62 : Nat → mSt → Int32 → Int32 → Prop
  | 0, _, _, _ => False
  | n + 1, σ, x1, x2 => if 3 ≤ x2 then (True) else (if x1 = x2 then ((vp_in ((520 * x1) + x2) 270400) ∧ (S_Mo_clear_62 n (mo_ai σ 23 ((520 * x1) + x2).toNatClampNeg 1) x1 (x2 + 1))) else ((vp_in ((520 * x1) + x2) 270400) ∧ (S_Mo_clear_62 n (mo_ai σ 23 ((520 * x1) + x2).toNatClampNeg 0) x1 (x2 + 1))))
set_option maxRecDepth 100000 in
set_option maxHeartbeats 4000000 in
theorem w_Mo_clear_62 {p : Program} {l : Launch} {e : Env} {s : State} {m : MethodId} {args : Array Value} {below : List Frame} {meth : Method} {c : Code} {D : va_G} {cs : Nat → ClassId} {B : Nat} {dE : Nat × Nat} {mo : Nat} {ad : Nat → Nat} {M0 : gMem} {Q : State → Prop} (C : CallFix p m c c_Mo_clear 3 s args gT R_Mo) (hE : gEnv D gcl (gtys cs) gz B dE s) (n : Nat) (σ : mSt) (x1 : Int32) (x2 : Int32) (Fv : mSt × Int32) (hS : S_Mo_clear_62 n σ x1 x2) (hF : F_Mo_clear_62 n σ x1 x2 = Fv) (hk : GW p l e ({ frames := 0, cells := 0, slots := 0, locals := 0 } : Room) s m args below meth c 3 (gA B) Q (mo_P D B cs mo ad M0 Fv.1) 0 0 95 [(0, .ref mo), (1, .int Fv.2)] []) : GW p l e ({ frames := 0, cells := 0, slots := 0, locals := 0 } : Room) s m args below meth c 3 (gA B) Q (mo_P D B cs mo ad M0 σ) 0 0 62 [(0, .ref mo), (1, .int x1), (2, .int x2)] [] := by
  induction n generalizing σ x1 x2 Fv with
  | zero => exact hS.elim
  | succ n ih =>
    unfold F_Mo_clear_62 at hF
    unfold S_Mo_clear_62 at hS
    refine g_iload_n C d_Mo_clear_62 rfl ?_
    refine g_iconst (v := 3) C d_Mo_clear_63 (by decide) ?_
    refine g_icmp_ge C 95 d_Mo_clear_64 (by decide) (fun hc11 => ?_) (fun hc11 => ?_)
    · rw [if_pos hc11] at hF hS
      refine GW.subl [0, 1] rfl ?_
      rw [← hF] at hk
      exact hk
    · rw [if_neg hc11] at hF hS
      refine g_aload_n C d_Mo_clear_67 rfl ?_
      refine m_geta C hE 23 (by decide) (by decide) (by decide) kf_Mo_65 d_Mo_clear_68 ?_
      refine g_sipush (v := 520) C d_Mo_clear_71 (by decide) ?_
      refine g_iload_n C d_Mo_clear_74 rfl ?_
      refine g_imul C d_Mo_clear_75 ?_
      refine g_iload_n C d_Mo_clear_76 rfl ?_
      refine g_iadd C d_Mo_clear_77 ?_
      refine g_iload_n C d_Mo_clear_78 rfl ?_
      refine g_iload_n C d_Mo_clear_79 rfl ?_
      refine g_icmp_ne C 87 d_Mo_clear_80 (by decide) (fun hc12 => ?_) (fun hc12 => ?_)
      · rw [if_neg hc12] at hF hS
        refine g_iconst (v := 0) C d_Mo_clear_87 (by decide) ?_
        obtain ⟨hi13, hS⟩ := hS
        refine m_zast C hE 23 (by decide) (by decide) (by decide) hi13 d_Mo_clear_88 ?_
        refine g_iinc (v := x2 + 1) (lv' := [(2, .int (x2 + 1)), (0, .ref mo), (1, .int x1)]) C d_Mo_clear_89 rfl rfl (by decide) rfl ?_
        refine g_goto C 62 d_Mo_clear_92 (by decide) ?_
        refine GW.subl [1, 2, 0] rfl ?_
        exact ih (mo_ai σ 23 ((520 * x1) + x2).toNatClampNeg 0) x1 (x2 + 1) Fv hS hF hk
      · rw [if_pos hc12] at hF hS
        refine g_iconst (v := 1) C d_Mo_clear_83 (by decide) ?_
        refine g_goto C 88 d_Mo_clear_84 (by decide) ?_
        obtain ⟨hi14, hS⟩ := hS
        refine m_zast C hE 23 (by decide) (by decide) (by decide) hi14 d_Mo_clear_88 ?_
        refine g_iinc (v := x2 + 1) (lv' := [(2, .int (x2 + 1)), (0, .ref mo), (1, .int x1)]) C d_Mo_clear_89 rfl rfl (by decide) rfl ?_
        refine g_goto C 62 d_Mo_clear_92 (by decide) ?_
        refine GW.subl [1, 2, 0] rfl ?_
        exact ih (mo_ai σ 23 ((520 * x1) + x2).toNatClampNeg 1) x1 (x2 + 1) Fv hS hF hk
def F_Mo_clear_55 : Nat → mSt → Int32 → mSt
  | 0, σ, _ => σ
  | n + 1, σ, x1 => if 3 ≤ x1 then (σ) else (mbind (F_Mo_clear_62 n σ x1 0) (fun w9 => F_Mo_clear_55 n w9.1 (w9.2 + 1)))
def S_Mo_clear_55 : Nat → mSt → Int32 → Prop
  | 0, _, _ => False
  | n + 1, σ, x1 => if 3 ≤ x1 then (True) else ((S_Mo_clear_62 n σ x1 0) ∧ (mbind (F_Mo_clear_62 n σ x1 0) (fun w9 => S_Mo_clear_55 n w9.1 (w9.2 + 1))))
set_option maxRecDepth 100000 in
set_option maxHeartbeats 4000000 in
theorem w_Mo_clear_55 {p : Program} {l : Launch} {e : Env} {s : State} {m : MethodId} {args : Array Value} {below : List Frame} {meth : Method} {c : Code} {D : va_G} {cs : Nat → ClassId} {B : Nat} {dE : Nat × Nat} {mo : Nat} {ad : Nat → Nat} {M0 : gMem} {Q : State → Prop} (C : CallFix p m c c_Mo_clear 3 s args gT R_Mo) (hE : gEnv D gcl (gtys cs) gz B dE s) (n : Nat) (σ : mSt) (x1 : Int32) (Fv : mSt) (hS : S_Mo_clear_55 n σ x1) (hF : F_Mo_clear_55 n σ x1 = Fv) (hk : GW p l e ({ frames := 0, cells := 0, slots := 0, locals := 0 } : Room) s m args below meth c 3 (gA B) Q (mo_P D B cs mo ad M0 Fv) 0 0 101 [(0, .ref mo)] []) : GW p l e ({ frames := 0, cells := 0, slots := 0, locals := 0 } : Room) s m args below meth c 3 (gA B) Q (mo_P D B cs mo ad M0 σ) 0 0 55 [(0, .ref mo), (1, .int x1)] [] := by
  induction n generalizing σ x1 Fv with
  | zero => exact hS.elim
  | succ n ih =>
    unfold F_Mo_clear_55 at hF
    unfold S_Mo_clear_55 at hS
    refine g_iload_n C d_Mo_clear_55 rfl ?_
    refine g_iconst (v := 3) C d_Mo_clear_56 (by decide) ?_
    refine g_icmp_ge C 101 d_Mo_clear_57 (by decide) (fun hc8 => ?_) (fun hc8 => ?_)
    · rw [if_pos hc8] at hF hS
      refine GW.subl [0] rfl ?_
      rw [← hF] at hk
      exact hk
    · rw [if_neg hc8] at hF hS
      refine g_iconst (v := 0) C d_Mo_clear_60 (by decide) ?_
      refine g_istore_n (lv' := [(2, .int 0), (0, .ref mo), (1, .int x1)]) C d_Mo_clear_61 (by decide) rfl ?_
      obtain ⟨hs10, hS⟩ := hS
      rw [mbind_eq] at hF hS
      refine GW.subl [1, 2, 0] rfl ?_
      refine w_Mo_clear_62 C hE n σ x1 0 _ hs10 rfl ?_
      generalize F_Mo_clear_62 n σ x1 0 = w9 at hF hS ⊢
      refine g_iinc (v := w9.2 + 1) (lv' := [(1, .int (w9.2 + 1)), (0, .ref mo)]) C d_Mo_clear_95 rfl rfl (by decide) rfl ?_
      refine g_goto C 55 d_Mo_clear_98 (by decide) ?_
      refine GW.subl [1, 0] rfl ?_
      exact ih w9.1 (w9.2 + 1) Fv hS hF hk
def F_Mo_clear (n : Nat) (σ : mSt) : mSt := mbind (F_Mo_clear_27 n (mo_si (mo_si (mo_si (mo_si (mo_si σ 4 0) 0 0) 1 0) 2 0) 3 3) 0) (fun w1 => mbind (F_Mo_clear_55 n w1 0) (fun w3 => mo_sl (mo_si (mo_si (mo_si (mo_si (mo_si (mo_si (mo_si (mo_si (mo_si w3 36 (-1)) 46 0) 34 0) 35 (-1)) 39 0) 47 0) 48 0) 49 0) 50 (-1)) 0))
def S_Mo_clear (n : Nat) (σ : mSt) : Prop := (S_Mo_clear_27 n (mo_si (mo_si (mo_si (mo_si (mo_si σ 4 0) 0 0) 1 0) 2 0) 3 3) 0) ∧ (mbind (F_Mo_clear_27 n (mo_si (mo_si (mo_si (mo_si (mo_si σ 4 0) 0 0) 1 0) 2 0) 3 3) 0) (fun w1 => (S_Mo_clear_55 n w1 0) ∧ (mbind (F_Mo_clear_55 n w1 0) (fun w3 => True))))
set_option maxRecDepth 100000 in
set_option maxHeartbeats 4000000 in
theorem mc_Mo_clear (l : Launch) (D : va_G) (cs : Nat → ClassId) (B : Nat) (dE : Nat × Nat) (mo : Nat) (ad : Nat → Nat) (n : Nat) (σ : mSt) (hS : S_Mo_clear n σ) : mMet l y_Mo_clear (Cond.code y_Mo_clear c_Mo_clear 3 none) ({ frames := 0, cells := 0, slots := 0, locals := 0 } : Room) D cs B dE mo ad [.ref mo] σ (fun r σ' => r = none ∧ σ' = F_Mo_clear n σ) := by
  refine mMet.ofW (by decide) rfl (Nat.le_of_ble_eq_true rfl) (lv0 := [(0, .ref mo)]) rfl ?_
  intro p e s m args below meth c M0 C hE hr hlocks
  generalize hF : F_Mo_clear n σ = Fv
  unfold F_Mo_clear at hF
  unfold S_Mo_clear at hS
  refine g_aload_n C d_Mo_clear_0 rfl ?_
  refine g_iconst (v := 0) C d_Mo_clear_1 (by decide) ?_
  refine m_puti C hE 4 (by decide) (by decide) rfl rfl kf_Mo_142 d_Mo_clear_2 ?_
  refine g_aload_n C d_Mo_clear_5 rfl ?_
  refine g_iconst (v := 0) C d_Mo_clear_6 (by decide) ?_
  refine m_puti C hE 0 (by decide) (by decide) rfl rfl kf_Mo_146 d_Mo_clear_7 ?_
  refine g_aload_n C d_Mo_clear_10 rfl ?_
  refine g_iconst (v := 0) C d_Mo_clear_11 (by decide) ?_
  refine m_puti C hE 1 (by decide) (by decide) rfl rfl kf_Mo_149 d_Mo_clear_12 ?_
  refine g_aload_n C d_Mo_clear_15 rfl ?_
  refine g_iconst (v := 0) C d_Mo_clear_16 (by decide) ?_
  refine m_puti C hE 2 (by decide) (by decide) rfl rfl kf_Mo_152 d_Mo_clear_17 ?_
  refine g_aload_n C d_Mo_clear_20 rfl ?_
  refine g_iconst (v := 3) C d_Mo_clear_21 (by decide) ?_
  refine m_puti C hE 3 (by decide) (by decide) rfl rfl kf_Mo_155 d_Mo_clear_22 ?_
  refine g_iconst (v := 0) C d_Mo_clear_25 (by decide) ?_
  refine g_istore_n (lv' := [(1, .int 0), (0, .ref mo)]) C d_Mo_clear_26 (by decide) rfl ?_
  obtain ⟨hs2, hS⟩ := hS
  rw [mbind_eq] at hF hS
  refine GW.subl [1, 0] rfl ?_
  refine w_Mo_clear_27 C hE n (mo_si (mo_si (mo_si (mo_si (mo_si σ 4 0) 0 0) 1 0) 2 0) 3 3) 0 _ hs2 rfl ?_
  generalize F_Mo_clear_27 n (mo_si (mo_si (mo_si (mo_si (mo_si σ 4 0) 0 0) 1 0) 2 0) 3 3) 0 = w1 at hF hS ⊢
  refine g_iconst (v := 0) C d_Mo_clear_53 (by decide) ?_
  refine g_istore_n (lv' := [(1, .int 0), (0, .ref mo)]) C d_Mo_clear_54 (by decide) rfl ?_
  obtain ⟨hs4, hS⟩ := hS
  rw [mbind_eq] at hF hS
  refine GW.subl [1, 0] rfl ?_
  refine w_Mo_clear_55 C hE n w1 0 _ hs4 rfl ?_
  generalize F_Mo_clear_55 n w1 0 = w3 at hF hS ⊢
  refine g_aload_n C d_Mo_clear_101 rfl ?_
  refine g_iconst (v := (-1)) C d_Mo_clear_102 (by decide) ?_
  refine m_puti C hE 36 (by decide) (by decide) rfl rfl kf_Mo_158 d_Mo_clear_103 ?_
  refine g_aload_n C d_Mo_clear_106 rfl ?_
  refine g_iconst (v := 0) C d_Mo_clear_107 (by decide) ?_
  refine m_puti C hE 46 (by decide) (by decide) rfl rfl kf_Mo_161 d_Mo_clear_108 ?_
  refine g_aload_n C d_Mo_clear_111 rfl ?_
  refine g_iconst (v := 0) C d_Mo_clear_112 (by decide) ?_
  refine m_puti C hE 34 (by decide) (by decide) rfl rfl kf_Mo_164 d_Mo_clear_113 ?_
  refine g_aload_n C d_Mo_clear_116 rfl ?_
  refine g_iconst (v := (-1)) C d_Mo_clear_117 (by decide) ?_
  refine m_puti C hE 35 (by decide) (by decide) rfl rfl kf_Mo_167 d_Mo_clear_118 ?_
  refine g_aload_n C d_Mo_clear_121 rfl ?_
  refine g_iconst (v := 0) C d_Mo_clear_122 (by decide) ?_
  refine m_putz C hE 39 (by decide) (by decide) rfl rfl (by decide) kf_Mo_170 d_Mo_clear_123 ?_
  refine g_aload_n C d_Mo_clear_126 rfl ?_
  refine g_iconst (v := 0) C d_Mo_clear_127 (by decide) ?_
  refine m_puti C hE 47 (by decide) (by decide) rfl rfl kf_Mo_174 d_Mo_clear_128 ?_
  refine g_aload_n C d_Mo_clear_131 rfl ?_
  refine g_iconst (v := 0) C d_Mo_clear_132 (by decide) ?_
  refine m_puti C hE 48 (by decide) (by decide) rfl rfl kf_Mo_177 d_Mo_clear_133 ?_
  refine g_aload_n C d_Mo_clear_136 rfl ?_
  refine g_iconst (v := 0) C d_Mo_clear_137 (by decide) ?_
  refine m_puti C hE 49 (by decide) (by decide) rfl rfl kf_Mo_180 d_Mo_clear_138 ?_
  refine g_aload_n C d_Mo_clear_141 rfl ?_
  refine g_iconst (v := (-1)) C d_Mo_clear_142 (by decide) ?_
  refine m_puti C hE 50 (by decide) (by decide) rfl rfl kf_Mo_183 d_Mo_clear_143 ?_
  refine g_aload_n C d_Mo_clear_146 rfl ?_
  refine g_lconst (v := 0) C d_Mo_clear_147 (by decide) ?_
  refine m_putl C hE kf_Mo_186 d_Mo_clear_148 ?_
  exact m_vret C hr hlocks d_Mo_clear_151 (by rw [← hF]; exact ⟨rfl, rfl⟩)
def F_Mo_isType (σ : mSt) (x1 : Int32) : Int32 × mSt := if x1 < 0 then ((0, σ)) else (if (σ.1 3) ≤ x1 then ((0, σ)) else ((1, σ)))
def S_Mo_isType (σ : mSt) (x1 : Int32) : Prop := if x1 < 0 then (True) else (if (σ.1 3) ≤ x1 then (True) else (True))
set_option maxRecDepth 100000 in
set_option maxHeartbeats 4000000 in
theorem mc_Mo_isType (l : Launch) (D : va_G) (cs : Nat → ClassId) (B : Nat) (dE : Nat × Nat) (mo : Nat) (ad : Nat → Nat) (σ : mSt) (x1 : Int32) (hS : S_Mo_isType σ x1) : mMet l y_Mo_isType (Cond.code y_Mo_isType c_Mo_isType 2 (some .boolean)) ({ frames := 0, cells := 0, slots := 0, locals := 0 } : Room) D cs B dE mo ad [.ref mo, .int x1] σ (fun r σ' => r = some (.int (F_Mo_isType σ x1).1) ∧ σ' = (F_Mo_isType σ x1).2) := by
  refine mMet.ofW (by decide) rfl (Nat.le_of_ble_eq_true rfl) (lv0 := [(0, .ref mo), (1, .int x1)]) rfl ?_
  intro p e s m args below meth c M0 C hE hr hlocks
  generalize hF : F_Mo_isType σ x1 = Fv
  unfold F_Mo_isType at hF
  unfold S_Mo_isType at hS
  refine g_iload_n C d_Mo_isType_0 rfl ?_
  refine g_if_lt C 16 d_Mo_isType_1 (by decide) (fun hc1 => ?_) (fun hc1 => ?_)
  · rw [if_pos hc1] at hF hS
    refine g_iconst (v := 0) C d_Mo_isType_16 (by decide) ?_
    exact m_zret C hr hlocks (by decide) d_Mo_isType_17 (by rw [← hF]; exact ⟨rfl, rfl⟩)
  · rw [if_neg hc1] at hF hS
    refine g_iload_n C d_Mo_isType_4 rfl ?_
    refine g_aload_n C d_Mo_isType_5 rfl ?_
    refine m_geti C hE 3 (by decide) (by decide) kf_Mo_155 d_Mo_isType_6 ?_
    refine g_icmp_ge C 16 d_Mo_isType_9 (by decide) (fun hc2 => ?_) (fun hc2 => ?_)
    · rw [if_pos hc2] at hF hS
      refine g_iconst (v := 0) C d_Mo_isType_16 (by decide) ?_
      exact m_zret C hr hlocks (by decide) d_Mo_isType_17 (by rw [← hF]; exact ⟨rfl, rfl⟩)
    · rw [if_neg hc2] at hF hS
      refine g_iconst (v := 1) C d_Mo_isType_12 (by decide) ?_
      refine g_goto C 17 d_Mo_isType_13 (by decide) ?_
      exact m_zret C hr hlocks (by decide) d_Mo_isType_17 (by rw [← hF]; exact ⟨rfl, rfl⟩)
def F_Mo_looksFit (σ : mSt) (x1 : Int32) (x2 : Int32) : Int32 × mSt := if x1 = x2 then ((1, σ)) else (if x1 < 3 then ((0, σ)) else (if 3 ≤ x2 then (if (σ.2.2.1 23 ((520 * (σ.2.2.1 20 x2.toNatClampNeg)) + (σ.2.2.1 20 x1.toNatClampNeg)).toNatClampNeg) = 0 then ((0, σ)) else (if (σ.2.2.1 23 ((520 * (σ.2.2.1 21 x1.toNatClampNeg)) + (σ.2.2.1 21 x2.toNatClampNeg)).toNatClampNeg) = 0 then ((0, σ)) else (if ((σ.2.2.1 22 x1.toNatClampNeg) &&& ((σ.2.2.1 22 x2.toNatClampNeg) ^^^ (-1))) = 0 then ((1, σ)) else ((0, σ))))) else ((0, σ))))
def S_Mo_looksFit (σ : mSt) (x1 : Int32) (x2 : Int32) : Prop := if x1 = x2 then (True) else (if x1 < 3 then (True) else (if 3 ≤ x2 then ((vp_in x2 520) ∧ ((vp_in x1 520) ∧ ((vp_in ((520 * (σ.2.2.1 20 x2.toNatClampNeg)) + (σ.2.2.1 20 x1.toNatClampNeg)) 270400) ∧ (if (σ.2.2.1 23 ((520 * (σ.2.2.1 20 x2.toNatClampNeg)) + (σ.2.2.1 20 x1.toNatClampNeg)).toNatClampNeg) = 0 then (True) else ((vp_in x1 520) ∧ ((vp_in x2 520) ∧ ((vp_in ((520 * (σ.2.2.1 21 x1.toNatClampNeg)) + (σ.2.2.1 21 x2.toNatClampNeg)) 270400) ∧ (if (σ.2.2.1 23 ((520 * (σ.2.2.1 21 x1.toNatClampNeg)) + (σ.2.2.1 21 x2.toNatClampNeg)).toNatClampNeg) = 0 then (True) else ((vp_in x1 520) ∧ ((vp_in x2 520) ∧ (if ((σ.2.2.1 22 x1.toNatClampNeg) &&& ((σ.2.2.1 22 x2.toNatClampNeg) ^^^ (-1))) = 0 then (True) else (True)))))))))))) else (True)))
set_option maxRecDepth 100000 in
set_option maxHeartbeats 4000000 in
theorem mc_Mo_looksFit (l : Launch) (D : va_G) (cs : Nat → ClassId) (B : Nat) (dE : Nat × Nat) (mo : Nat) (ad : Nat → Nat) (σ : mSt) (x1 : Int32) (x2 : Int32) (hS : S_Mo_looksFit σ x1 x2) : mMet l y_Mo_looksFit (Cond.code y_Mo_looksFit c_Mo_looksFit 3 (some .boolean)) ({ frames := 0, cells := 0, slots := 0, locals := 0 } : Room) D cs B dE mo ad [.ref mo, .int x1, .int x2] σ (fun r σ' => r = some (.int (F_Mo_looksFit σ x1 x2).1) ∧ σ' = (F_Mo_looksFit σ x1 x2).2) := by
  refine mMet.ofW (by decide) rfl (Nat.le_of_ble_eq_true rfl) (lv0 := [(0, .ref mo), (1, .int x1), (2, .int x2)]) rfl ?_
  intro p e s m args below meth c M0 C hE hr hlocks
  generalize hF : F_Mo_looksFit σ x1 x2 = Fv
  unfold F_Mo_looksFit at hF
  unfold S_Mo_looksFit at hS
  refine g_iload_n C d_Mo_looksFit_0 rfl ?_
  refine g_iload_n C d_Mo_looksFit_1 rfl ?_
  refine g_icmp_ne C 7 d_Mo_looksFit_2 (by decide) (fun hc1 => ?_) (fun hc1 => ?_)
  · rw [if_neg hc1] at hF hS
    refine g_iload_n C d_Mo_looksFit_7 rfl ?_
    refine g_iconst (v := 3) C d_Mo_looksFit_8 (by decide) ?_
    refine g_icmp_lt C 17 d_Mo_looksFit_9 (by decide) (fun hc2 => ?_) (fun hc2 => ?_)
    · rw [if_pos hc2] at hF hS
      refine g_iconst (v := 0) C d_Mo_looksFit_17 (by decide) ?_
      exact m_zret C hr hlocks (by decide) d_Mo_looksFit_18 (by rw [← hF]; exact ⟨rfl, rfl⟩)
    · rw [if_neg hc2] at hF hS
      refine g_iload_n C d_Mo_looksFit_12 rfl ?_
      refine g_iconst (v := 3) C d_Mo_looksFit_13 (by decide) ?_
      refine g_icmp_ge C 19 d_Mo_looksFit_14 (by decide) (fun hc3 => ?_) (fun hc3 => ?_)
      · rw [if_pos hc3] at hF hS
        refine g_aload_n C d_Mo_looksFit_19 rfl ?_
        refine m_geta C hE 23 (by decide) (by decide) (by decide) kf_Mo_65 d_Mo_looksFit_20 ?_
        refine g_sipush (v := 520) C d_Mo_looksFit_23 (by decide) ?_
        refine g_aload_n C d_Mo_looksFit_26 rfl ?_
        refine m_geta C hE 20 (by decide) (by decide) (by decide) kf_Mo_55 d_Mo_looksFit_27 ?_
        refine g_iload_n C d_Mo_looksFit_30 rfl ?_
        obtain ⟨hi4, hS⟩ := hS
        refine m_ald C hE 20 (by decide) (by decide) hi4 d_Mo_looksFit_31 ?_
        refine g_imul C d_Mo_looksFit_32 ?_
        refine g_aload_n C d_Mo_looksFit_33 rfl ?_
        refine m_geta C hE 20 (by decide) (by decide) (by decide) kf_Mo_55 d_Mo_looksFit_34 ?_
        refine g_iload_n C d_Mo_looksFit_37 rfl ?_
        obtain ⟨hi5, hS⟩ := hS
        refine m_ald C hE 20 (by decide) (by decide) hi5 d_Mo_looksFit_38 ?_
        refine g_iadd C d_Mo_looksFit_39 ?_
        obtain ⟨hi6, hS⟩ := hS
        refine m_zald C hE 23 (by decide) (by decide) hi6 d_Mo_looksFit_40 ?_
        refine g_if_eq C 91 d_Mo_looksFit_41 (by decide) (fun hc7 => ?_) (fun hc7 => ?_)
        · rw [if_pos hc7] at hF hS
          refine g_iconst (v := 0) C d_Mo_looksFit_91 (by decide) ?_
          exact m_zret C hr hlocks (by decide) d_Mo_looksFit_92 (by rw [← hF]; exact ⟨rfl, rfl⟩)
        · rw [if_neg hc7] at hF hS
          refine g_aload_n C d_Mo_looksFit_44 rfl ?_
          refine m_geta C hE 23 (by decide) (by decide) (by decide) kf_Mo_65 d_Mo_looksFit_45 ?_
          refine g_sipush (v := 520) C d_Mo_looksFit_48 (by decide) ?_
          refine g_aload_n C d_Mo_looksFit_51 rfl ?_
          refine m_geta C hE 21 (by decide) (by decide) (by decide) kf_Mo_58 d_Mo_looksFit_52 ?_
          refine g_iload_n C d_Mo_looksFit_55 rfl ?_
          obtain ⟨hi8, hS⟩ := hS
          refine m_ald C hE 21 (by decide) (by decide) hi8 d_Mo_looksFit_56 ?_
          refine g_imul C d_Mo_looksFit_57 ?_
          refine g_aload_n C d_Mo_looksFit_58 rfl ?_
          refine m_geta C hE 21 (by decide) (by decide) (by decide) kf_Mo_58 d_Mo_looksFit_59 ?_
          refine g_iload_n C d_Mo_looksFit_62 rfl ?_
          obtain ⟨hi9, hS⟩ := hS
          refine m_ald C hE 21 (by decide) (by decide) hi9 d_Mo_looksFit_63 ?_
          refine g_iadd C d_Mo_looksFit_64 ?_
          obtain ⟨hi10, hS⟩ := hS
          refine m_zald C hE 23 (by decide) (by decide) hi10 d_Mo_looksFit_65 ?_
          refine g_if_eq C 91 d_Mo_looksFit_66 (by decide) (fun hc11 => ?_) (fun hc11 => ?_)
          · rw [if_pos hc11] at hF hS
            refine g_iconst (v := 0) C d_Mo_looksFit_91 (by decide) ?_
            exact m_zret C hr hlocks (by decide) d_Mo_looksFit_92 (by rw [← hF]; exact ⟨rfl, rfl⟩)
          · rw [if_neg hc11] at hF hS
            refine g_aload_n C d_Mo_looksFit_69 rfl ?_
            refine m_geta C hE 22 (by decide) (by decide) (by decide) kf_Mo_61 d_Mo_looksFit_70 ?_
            refine g_iload_n C d_Mo_looksFit_73 rfl ?_
            obtain ⟨hi12, hS⟩ := hS
            refine m_ald C hE 22 (by decide) (by decide) hi12 d_Mo_looksFit_74 ?_
            refine g_aload_n C d_Mo_looksFit_75 rfl ?_
            refine m_geta C hE 22 (by decide) (by decide) (by decide) kf_Mo_61 d_Mo_looksFit_76 ?_
            refine g_iload_n C d_Mo_looksFit_79 rfl ?_
            obtain ⟨hi13, hS⟩ := hS
            refine m_ald C hE 22 (by decide) (by decide) hi13 d_Mo_looksFit_80 ?_
            refine g_iconst (v := (-1)) C d_Mo_looksFit_81 (by decide) ?_
            refine g_ixor C d_Mo_looksFit_82 ?_
            refine g_iand C d_Mo_looksFit_83 ?_
            refine g_if_ne C 91 d_Mo_looksFit_84 (by decide) (fun hc14 => ?_) (fun hc14 => ?_)
            · rw [if_neg hc14] at hF hS
              refine g_iconst (v := 0) C d_Mo_looksFit_91 (by decide) ?_
              exact m_zret C hr hlocks (by decide) d_Mo_looksFit_92 (by rw [← hF]; exact ⟨rfl, rfl⟩)
            · rw [if_pos hc14] at hF hS
              refine g_iconst (v := 1) C d_Mo_looksFit_87 (by decide) ?_
              refine g_goto C 92 d_Mo_looksFit_88 (by decide) ?_
              exact m_zret C hr hlocks (by decide) d_Mo_looksFit_92 (by rw [← hF]; exact ⟨rfl, rfl⟩)
      · rw [if_neg hc3] at hF hS
        refine g_iconst (v := 0) C d_Mo_looksFit_17 (by decide) ?_
        exact m_zret C hr hlocks (by decide) d_Mo_looksFit_18 (by rw [← hF]; exact ⟨rfl, rfl⟩)
  · rw [if_pos hc1] at hF hS
    refine g_iconst (v := 1) C d_Mo_looksFit_5 (by decide) ?_
    exact m_zret C hr hlocks (by decide) d_Mo_looksFit_6 (by rw [← hF]; exact ⟨rfl, rfl⟩)
def F_Mo_typeOf_97 : Nat → mSt → Int32 → Int32 → mSt × Int32
  | 0, σ, _, _ => (σ, 0)
  | n + 1, σ, x4, x5 => if x4 < x5 then ((σ, x4)) else (mbind (F_Mo_looksFit σ x4 x5) (fun w14 => mbind (F_Mo_looksFit (mo_ai w14.2 23 ((520 * x4) + x5).toNatClampNeg w14.1) x5 x4) (fun w18 => F_Mo_typeOf_97 n (mo_ai w18.2 23 ((520 * x5) + x4).toNatClampNeg w18.1) x4 (x5 + 1))))
def S_Mo_typeOf_97 : Nat → mSt → Int32 → Int32 → Prop
  | 0, _, _, _ => False
  | n + 1, σ, x4, x5 => if x4 < x5 then (True) else ((S_Mo_looksFit σ x4 x5) ∧ (mbind (F_Mo_looksFit σ x4 x5) (fun w14 => (vp_in ((520 * x4) + x5) 270400) ∧ ((w14.1 = 0 ∨ w14.1 = 1) ∧ ((S_Mo_looksFit (mo_ai w14.2 23 ((520 * x4) + x5).toNatClampNeg w14.1) x5 x4) ∧ (mbind (F_Mo_looksFit (mo_ai w14.2 23 ((520 * x4) + x5).toNatClampNeg w14.1) x5 x4) (fun w18 => (vp_in ((520 * x5) + x4) 270400) ∧ ((w18.1 = 0 ∨ w18.1 = 1) ∧ (S_Mo_typeOf_97 n (mo_ai w18.2 23 ((520 * x5) + x4).toNatClampNeg w18.1) x4 (x5 + 1))))))))))
set_option maxRecDepth 100000 in
set_option maxHeartbeats 4000000 in
theorem w_Mo_typeOf_97 {p : Program} {l : Launch} {e : Env} {s : State} {m : MethodId} {args : Array Value} {below : List Frame} {meth : Method} {c : Code} {D : va_G} {cs : Nat → ClassId} {B : Nat} {dE : Nat × Nat} {mo : Nat} {ad : Nat → Nat} {M0 : gMem} {Q : State → Prop} (C : CallFix p m c c_Mo_typeOf 6 s args gT R_Mo) (hE : gEnv D gcl (gtys cs) gz B dE s) (n : Nat) (σ : mSt) (x4 : Int32) (x5 : Int32) (Fv : mSt × Int32) (hS : S_Mo_typeOf_97 n σ x4 x5) (hF : F_Mo_typeOf_97 n σ x4 x5 = Fv) (hk : GW p l e ({ frames := 1, cells := 0, slots := 0, locals := 22 } : Room) s m args below meth c 6 (gA B) Q (mo_P D B cs mo ad M0 Fv.1) 0 0 154 [(0, .ref mo), (4, .int Fv.2)] []) : GW p l e ({ frames := 1, cells := 0, slots := 0, locals := 22 } : Room) s m args below meth c 6 (gA B) Q (mo_P D B cs mo ad M0 σ) 0 0 97 [(0, .ref mo), (4, .int x4), (5, .int x5)] [] := by
  induction n generalizing σ x4 x5 Fv with
  | zero => exact hS.elim
  | succ n ih =>
    unfold F_Mo_typeOf_97 at hF
    unfold S_Mo_typeOf_97 at hS
    refine g_iload C d_Mo_typeOf_97 rfl ?_
    refine g_iload C d_Mo_typeOf_99 rfl ?_
    refine g_icmp_gt C 154 d_Mo_typeOf_101 (by decide) (fun hc13 => ?_) (fun hc13 => ?_)
    · rw [if_pos hc13] at hF hS
      refine GW.subl [0, 1] rfl ?_
      rw [← hF] at hk
      exact hk
    · rw [if_neg hc13] at hF hS
      refine g_aload_n C d_Mo_typeOf_104 rfl ?_
      refine m_geta C hE 23 (by decide) (by decide) (by decide) kf_Mo_65 d_Mo_typeOf_105 ?_
      refine g_sipush (v := 520) C d_Mo_typeOf_108 (by decide) ?_
      refine g_iload C d_Mo_typeOf_111 rfl ?_
      refine g_imul C d_Mo_typeOf_113 ?_
      refine g_iload C d_Mo_typeOf_114 rfl ?_
      refine g_iadd C d_Mo_typeOf_116 ?_
      refine g_aload_n C d_Mo_typeOf_117 rfl ?_
      refine g_iload C d_Mo_typeOf_118 rfl ?_
      refine g_iload C d_Mo_typeOf_120 rfl ?_
      obtain ⟨hs15, hS⟩ := hS
      refine m_callV (n := 2) (av := [.int x4, .int x5]) (rest := [.int ((520 * x4) + x5), .ref (ad 23)]) C hE (mc_Mo_looksFit l D cs B dE mo ad _ _ _ hs15) km_Mo_190 kv_Mo_looksFit kl_Mo_looksFit kd_Mo_looksFit ki_Mo ⟨rfl, by decide, by decide, by decide⟩ rfl ⟨rfl, rfl⟩ (by decide) (by decide) d_Mo_typeOf_122 (Nat.le_of_ble_eq_true rfl) _ rfl (fun v1 σ1 hv => ?_)
      obtain ⟨rfl, rfl⟩ := hv
      rw [mbind_eq] at hF hS
      generalize F_Mo_looksFit σ x4 x5 = w14 at hF hS ⊢
      refine GW.eqs (st' := [.int w14.1, .int ((520 * x4) + x5), .ref (ad 23)]) rfl ?_
      obtain ⟨hi16, hS⟩ := hS
      obtain ⟨hb17, hS⟩ := hS
      refine m_zast C hE 23 (by decide) (by decide) hb17 hi16 d_Mo_typeOf_125 ?_
      refine g_aload_n C d_Mo_typeOf_126 rfl ?_
      refine m_geta C hE 23 (by decide) (by decide) (by decide) kf_Mo_65 d_Mo_typeOf_127 ?_
      refine g_sipush (v := 520) C d_Mo_typeOf_130 (by decide) ?_
      refine g_iload C d_Mo_typeOf_133 rfl ?_
      refine g_imul C d_Mo_typeOf_135 ?_
      refine g_iload C d_Mo_typeOf_136 rfl ?_
      refine g_iadd C d_Mo_typeOf_138 ?_
      refine g_aload_n C d_Mo_typeOf_139 rfl ?_
      refine g_iload C d_Mo_typeOf_140 rfl ?_
      refine g_iload C d_Mo_typeOf_142 rfl ?_
      obtain ⟨hs19, hS⟩ := hS
      refine m_callV (n := 2) (av := [.int x5, .int x4]) (rest := [.int ((520 * x5) + x4), .ref (ad 23)]) C hE (mc_Mo_looksFit l D cs B dE mo ad _ _ _ hs19) km_Mo_190 kv_Mo_looksFit kl_Mo_looksFit kd_Mo_looksFit ki_Mo ⟨rfl, by decide, by decide, by decide⟩ rfl ⟨rfl, rfl⟩ (by decide) (by decide) d_Mo_typeOf_144 (Nat.le_of_ble_eq_true rfl) _ rfl (fun v1 σ1 hv => ?_)
      obtain ⟨rfl, rfl⟩ := hv
      rw [mbind_eq] at hF hS
      generalize F_Mo_looksFit (mo_ai w14.2 23 ((520 * x4) + x5).toNatClampNeg w14.1) x5 x4 = w18 at hF hS ⊢
      refine GW.eqs (st' := [.int w18.1, .int ((520 * x5) + x4), .ref (ad 23)]) rfl ?_
      obtain ⟨hi20, hS⟩ := hS
      obtain ⟨hb21, hS⟩ := hS
      refine m_zast C hE 23 (by decide) (by decide) hb21 hi20 d_Mo_typeOf_147 ?_
      refine g_iinc (v := x5 + 1) (lv' := [(5, .int (x5 + 1)), (0, .ref mo), (4, .int x4)]) C d_Mo_typeOf_148 rfl rfl (by decide) rfl ?_
      refine g_goto C 97 d_Mo_typeOf_151 (by decide) ?_
      refine GW.subl [1, 2, 0] rfl ?_
      exact ih (mo_ai w18.2 23 ((520 * x5) + x4).toNatClampNeg w18.1) x4 (x5 + 1) Fv hS hF hk
def F_Mo_typeOf_3 : Nat → mSt → Int32 → Int32 → Int32 → Int32 → Int32 × mSt
  | 0, σ, _, _, _, _ => (0, σ)
  | n + 1, σ, x1, x2, x3, x4 => if (σ.1 3) ≤ x4 then (mbind (F_Mo_typeOf_97 n (mo_si (mo_ai (mo_ai (mo_ai σ 20 (σ.1 3).toNatClampNeg x1) 21 (σ.1 3).toNatClampNeg x2) 22 (σ.1 3).toNatClampNeg x3) 3 (((mo_ai (mo_ai (mo_ai σ 20 (σ.1 3).toNatClampNeg x1) 21 (σ.1 3).toNatClampNeg x2) 22 (σ.1 3).toNatClampNeg x3).1 3) + 1)) (σ.1 3) 0) (fun w5 => (w5.2, w5.1))) else (if (σ.2.2.1 20 x4.toNatClampNeg) = x1 then (if (σ.2.2.1 21 x4.toNatClampNeg) = x2 then (if (σ.2.2.1 22 x4.toNatClampNeg) = x3 then ((x4, σ)) else (F_Mo_typeOf_3 n σ x1 x2 x3 (x4 + 1))) else (F_Mo_typeOf_3 n σ x1 x2 x3 (x4 + 1))) else (F_Mo_typeOf_3 n σ x1 x2 x3 (x4 + 1)))
def S_Mo_typeOf_3 : Nat → mSt → Int32 → Int32 → Int32 → Int32 → Prop
  | 0, _, _, _, _, _ => False
  | n + 1, σ, x1, x2, x3, x4 => if (σ.1 3) ≤ x4 then ((vp_in (σ.1 3) 520) ∧ ((vp_in (σ.1 3) 520) ∧ ((vp_in (σ.1 3) 520) ∧ ((S_Mo_typeOf_97 n (mo_si (mo_ai (mo_ai (mo_ai σ 20 (σ.1 3).toNatClampNeg x1) 21 (σ.1 3).toNatClampNeg x2) 22 (σ.1 3).toNatClampNeg x3) 3 (((mo_ai (mo_ai (mo_ai σ 20 (σ.1 3).toNatClampNeg x1) 21 (σ.1 3).toNatClampNeg x2) 22 (σ.1 3).toNatClampNeg x3).1 3) + 1)) (σ.1 3) 0) ∧ (mbind (F_Mo_typeOf_97 n (mo_si (mo_ai (mo_ai (mo_ai σ 20 (σ.1 3).toNatClampNeg x1) 21 (σ.1 3).toNatClampNeg x2) 22 (σ.1 3).toNatClampNeg x3) 3 (((mo_ai (mo_ai (mo_ai σ 20 (σ.1 3).toNatClampNeg x1) 21 (σ.1 3).toNatClampNeg x2) 22 (σ.1 3).toNatClampNeg x3).1 3) + 1)) (σ.1 3) 0) (fun w5 => True)))))) else ((vp_in x4 520) ∧ (if (σ.2.2.1 20 x4.toNatClampNeg) = x1 then ((vp_in x4 520) ∧ (if (σ.2.2.1 21 x4.toNatClampNeg) = x2 then ((vp_in x4 520) ∧ (if (σ.2.2.1 22 x4.toNatClampNeg) = x3 then (True) else (S_Mo_typeOf_3 n σ x1 x2 x3 (x4 + 1)))) else (S_Mo_typeOf_3 n σ x1 x2 x3 (x4 + 1)))) else (S_Mo_typeOf_3 n σ x1 x2 x3 (x4 + 1))))
set_option maxRecDepth 100000 in
set_option maxHeartbeats 4000000 in
theorem w_Mo_typeOf_3 {p : Program} {l : Launch} {e : Env} {s : State} {m : MethodId} {args : Array Value} {below : List Frame} {meth : Method} {c : Code} {D : va_G} {cs : Nat → ClassId} {B : Nat} {dE : Nat × Nat} {mo : Nat} {ad : Nat → Nat} {M0 : gMem} (C : CallFix p m c c_Mo_typeOf 6 s args gT R_Mo) (hE : gEnv D gcl (gtys cs) gz B dE s) (hr : meth.sig.returnType = (some .int)) (hlocks : meth.locks = false) (n : Nat) (σ : mSt) (x1 : Int32) (x2 : Int32) (x3 : Int32) (x4 : Int32) (Fv : Int32 × mSt) (hS : S_Mo_typeOf_3 n σ x1 x2 x3 x4) (hF : F_Mo_typeOf_3 n σ x1 x2 x3 x4 = Fv) : GW p l e ({ frames := 1, cells := 0, slots := 0, locals := 22 } : Room) s m args below meth c 6 (gA B) (mQ below D cs B mo ad M0 (fun r σ' => r = some (.int Fv.1) ∧ σ' = Fv.2) args s) (mo_P D B cs mo ad M0 σ) 0 0 3 [(0, .ref mo), (1, .int x1), (2, .int x2), (3, .int x3), (4, .int x4)] [] := by
  induction n generalizing σ x1 x2 x3 x4 Fv with
  | zero => exact hS.elim
  | succ n ih =>
    unfold F_Mo_typeOf_3 at hF
    unfold S_Mo_typeOf_3 at hS
    refine g_iload C d_Mo_typeOf_3 rfl ?_
    refine g_aload_n C d_Mo_typeOf_5 rfl ?_
    refine m_geti C hE 3 (by decide) (by decide) kf_Mo_155 d_Mo_typeOf_6 ?_
    refine g_icmp_ge C 54 d_Mo_typeOf_9 (by decide) (fun hc1 => ?_) (fun hc1 => ?_)
    · rw [if_pos hc1] at hF hS
      refine g_aload_n C d_Mo_typeOf_54 rfl ?_
      refine m_geti C hE 3 (by decide) (by decide) kf_Mo_155 d_Mo_typeOf_55 ?_
      refine g_istore (lv' := [(4, .int (σ.1 3)), (0, .ref mo), (1, .int x1), (2, .int x2), (3, .int x3)]) C d_Mo_typeOf_58 (by decide) rfl ?_
      refine g_aload_n C d_Mo_typeOf_60 rfl ?_
      refine m_geta C hE 20 (by decide) (by decide) (by decide) kf_Mo_55 d_Mo_typeOf_61 ?_
      refine g_iload C d_Mo_typeOf_64 rfl ?_
      refine g_iload_n C d_Mo_typeOf_66 rfl ?_
      obtain ⟨hi2, hS⟩ := hS
      refine m_ast C hE 20 (by decide) (by decide) hi2 d_Mo_typeOf_67 ?_
      refine g_aload_n C d_Mo_typeOf_68 rfl ?_
      refine m_geta C hE 21 (by decide) (by decide) (by decide) kf_Mo_58 d_Mo_typeOf_69 ?_
      refine g_iload C d_Mo_typeOf_72 rfl ?_
      refine g_iload_n C d_Mo_typeOf_74 rfl ?_
      obtain ⟨hi3, hS⟩ := hS
      refine m_ast C hE 21 (by decide) (by decide) hi3 d_Mo_typeOf_75 ?_
      refine g_aload_n C d_Mo_typeOf_76 rfl ?_
      refine m_geta C hE 22 (by decide) (by decide) (by decide) kf_Mo_61 d_Mo_typeOf_77 ?_
      refine g_iload C d_Mo_typeOf_80 rfl ?_
      refine g_iload_n C d_Mo_typeOf_82 rfl ?_
      obtain ⟨hi4, hS⟩ := hS
      refine m_ast C hE 22 (by decide) (by decide) hi4 d_Mo_typeOf_83 ?_
      refine g_aload_n C d_Mo_typeOf_84 rfl ?_
      refine g_dup C d_Mo_typeOf_85 rfl ?_
      refine m_geti C hE 3 (by decide) (by decide) kf_Mo_155 d_Mo_typeOf_86 ?_
      refine g_iconst (v := 1) C d_Mo_typeOf_89 (by decide) ?_
      refine g_iadd C d_Mo_typeOf_90 ?_
      refine m_puti C hE 3 (by decide) (by decide) rfl rfl kf_Mo_155 d_Mo_typeOf_91 ?_
      refine g_iconst (v := 0) C d_Mo_typeOf_94 (by decide) ?_
      refine g_istore (lv' := [(5, .int 0), (4, .int (σ.1 3)), (0, .ref mo), (1, .int x1), (2, .int x2), (3, .int x3)]) C d_Mo_typeOf_95 (by decide) rfl ?_
      obtain ⟨hs6, hS⟩ := hS
      rw [mbind_eq] at hF hS
      refine GW.subl [2, 1, 0] rfl ?_
      refine w_Mo_typeOf_97 C hE n (mo_si (mo_ai (mo_ai (mo_ai σ 20 (σ.1 3).toNatClampNeg x1) 21 (σ.1 3).toNatClampNeg x2) 22 (σ.1 3).toNatClampNeg x3) 3 (((mo_ai (mo_ai (mo_ai σ 20 (σ.1 3).toNatClampNeg x1) 21 (σ.1 3).toNatClampNeg x2) 22 (σ.1 3).toNatClampNeg x3).1 3) + 1)) (σ.1 3) 0 _ hs6 rfl ?_
      generalize F_Mo_typeOf_97 n (mo_si (mo_ai (mo_ai (mo_ai σ 20 (σ.1 3).toNatClampNeg x1) 21 (σ.1 3).toNatClampNeg x2) 22 (σ.1 3).toNatClampNeg x3) 3 (((mo_ai (mo_ai (mo_ai σ 20 (σ.1 3).toNatClampNeg x1) 21 (σ.1 3).toNatClampNeg x2) 22 (σ.1 3).toNatClampNeg x3).1 3) + 1)) (σ.1 3) 0 = w5 at hF hS ⊢
      refine g_iload C d_Mo_typeOf_154 rfl ?_
      exact m_iret C hr hlocks d_Mo_typeOf_156 (by rw [← hF]; exact ⟨rfl, rfl⟩)
    · rw [if_neg hc1] at hF hS
      refine g_aload_n C d_Mo_typeOf_12 rfl ?_
      refine m_geta C hE 20 (by decide) (by decide) (by decide) kf_Mo_55 d_Mo_typeOf_13 ?_
      refine g_iload C d_Mo_typeOf_16 rfl ?_
      obtain ⟨hi7, hS⟩ := hS
      refine m_ald C hE 20 (by decide) (by decide) hi7 d_Mo_typeOf_18 ?_
      refine g_iload_n C d_Mo_typeOf_19 rfl ?_
      refine g_icmp_ne C 48 d_Mo_typeOf_20 (by decide) (fun hc8 => ?_) (fun hc8 => ?_)
      · rw [if_neg hc8] at hF hS
        refine g_iinc (v := x4 + 1) (lv' := [(4, .int (x4 + 1)), (0, .ref mo), (1, .int x1), (2, .int x2), (3, .int x3)]) C d_Mo_typeOf_48 rfl rfl (by decide) rfl ?_
        refine g_goto C 3 d_Mo_typeOf_51 (by decide) ?_
        refine GW.subl [1, 2, 3, 4, 0] rfl ?_
        exact ih σ x1 x2 x3 (x4 + 1) Fv hS hF
      · rw [if_pos hc8] at hF hS
        refine g_aload_n C d_Mo_typeOf_23 rfl ?_
        refine m_geta C hE 21 (by decide) (by decide) (by decide) kf_Mo_58 d_Mo_typeOf_24 ?_
        refine g_iload C d_Mo_typeOf_27 rfl ?_
        obtain ⟨hi9, hS⟩ := hS
        refine m_ald C hE 21 (by decide) (by decide) hi9 d_Mo_typeOf_29 ?_
        refine g_iload_n C d_Mo_typeOf_30 rfl ?_
        refine g_icmp_ne C 48 d_Mo_typeOf_31 (by decide) (fun hc10 => ?_) (fun hc10 => ?_)
        · rw [if_neg hc10] at hF hS
          refine g_iinc (v := x4 + 1) (lv' := [(4, .int (x4 + 1)), (0, .ref mo), (1, .int x1), (2, .int x2), (3, .int x3)]) C d_Mo_typeOf_48 rfl rfl (by decide) rfl ?_
          refine g_goto C 3 d_Mo_typeOf_51 (by decide) ?_
          refine GW.subl [1, 2, 3, 4, 0] rfl ?_
          exact ih σ x1 x2 x3 (x4 + 1) Fv hS hF
        · rw [if_pos hc10] at hF hS
          refine g_aload_n C d_Mo_typeOf_34 rfl ?_
          refine m_geta C hE 22 (by decide) (by decide) (by decide) kf_Mo_61 d_Mo_typeOf_35 ?_
          refine g_iload C d_Mo_typeOf_38 rfl ?_
          obtain ⟨hi11, hS⟩ := hS
          refine m_ald C hE 22 (by decide) (by decide) hi11 d_Mo_typeOf_40 ?_
          refine g_iload_n C d_Mo_typeOf_41 rfl ?_
          refine g_icmp_ne C 48 d_Mo_typeOf_42 (by decide) (fun hc12 => ?_) (fun hc12 => ?_)
          · rw [if_neg hc12] at hF hS
            refine g_iinc (v := x4 + 1) (lv' := [(4, .int (x4 + 1)), (0, .ref mo), (1, .int x1), (2, .int x2), (3, .int x3)]) C d_Mo_typeOf_48 rfl rfl (by decide) rfl ?_
            refine g_goto C 3 d_Mo_typeOf_51 (by decide) ?_
            refine GW.subl [1, 2, 3, 4, 0] rfl ?_
            exact ih σ x1 x2 x3 (x4 + 1) Fv hS hF
          · rw [if_pos hc12] at hF hS
            refine g_iload C d_Mo_typeOf_45 rfl ?_
            exact m_iret C hr hlocks d_Mo_typeOf_47 (by rw [← hF]; exact ⟨rfl, rfl⟩)
def F_Mo_typeOf (n : Nat) (σ : mSt) (x1 : Int32) (x2 : Int32) (x3 : Int32) : Int32 × mSt := F_Mo_typeOf_3 n σ x1 x2 x3 3
def S_Mo_typeOf (n : Nat) (σ : mSt) (x1 : Int32) (x2 : Int32) (x3 : Int32) : Prop := S_Mo_typeOf_3 n σ x1 x2 x3 3
set_option maxRecDepth 100000 in
set_option maxHeartbeats 4000000 in
theorem mc_Mo_typeOf (l : Launch) (D : va_G) (cs : Nat → ClassId) (B : Nat) (dE : Nat × Nat) (mo : Nat) (ad : Nat → Nat) (n : Nat) (σ : mSt) (x1 : Int32) (x2 : Int32) (x3 : Int32) (hS : S_Mo_typeOf n σ x1 x2 x3) : mMet l y_Mo_typeOf (Cond.code y_Mo_typeOf c_Mo_typeOf 6 (some .int)) ({ frames := 1, cells := 0, slots := 0, locals := 22 } : Room) D cs B dE mo ad [.ref mo, .int x1, .int x2, .int x3] σ (fun r σ' => r = some (.int (F_Mo_typeOf n σ x1 x2 x3).1) ∧ σ' = (F_Mo_typeOf n σ x1 x2 x3).2) := by
  refine mMet.ofW (by decide) rfl (Nat.le_of_ble_eq_true rfl) (lv0 := [(0, .ref mo), (1, .int x1), (2, .int x2), (3, .int x3)]) rfl ?_
  intro p e s m args below meth c M0 C hE hr hlocks
  generalize hF : F_Mo_typeOf n σ x1 x2 x3 = Fv
  unfold F_Mo_typeOf at hF
  unfold S_Mo_typeOf at hS
  refine g_iconst (v := 3) C d_Mo_typeOf_0 (by decide) ?_
  refine g_istore (lv' := [(4, .int 3), (0, .ref mo), (1, .int x1), (2, .int x2), (3, .int x3)]) C d_Mo_typeOf_1 (by decide) rfl ?_
  refine GW.subl [1, 2, 3, 4, 0] rfl ?_
  exact w_Mo_typeOf_3 C hE hr hlocks n σ x1 x2 x3 3 Fv hS hF
def F_Mo_function_j114 (n : Nat) (σ : mSt) (x1 : Int32) (x2 : Int32) (x3 : Int32) (z0 : Int32) : Int32 × mSt := if ((mo_si σ 4 z0).1 4) = 0 then (mbind (F_Mo_typeOf n (mo_si σ 4 z0) x1 x2 x3) (fun w19 => (w19.1, w19.2))) else ((0, mo_si σ 4 z0))
def S_Mo_function_j114 (n : Nat) (σ : mSt) (x1 : Int32) (x2 : Int32) (x3 : Int32) (z0 : Int32) : Prop := if ((mo_si σ 4 z0).1 4) = 0 then ((S_Mo_typeOf n (mo_si σ 4 z0) x1 x2 x3) ∧ (mbind (F_Mo_typeOf n (mo_si σ 4 z0) x1 x2 x3) (fun w19 => True))) else (True)
set_option maxRecDepth 100000 in
set_option maxHeartbeats 4000000 in
theorem w_Mo_function_j114 {p : Program} {l : Launch} {e : Env} {s : State} {m : MethodId} {args : Array Value} {below : List Frame} {meth : Method} {c : Code} {D : va_G} {cs : Nat → ClassId} {B : Nat} {dE : Nat × Nat} {mo : Nat} {ad : Nat → Nat} {M0 : gMem} (C : CallFix p m c c_Mo_function 5 s args gT R_Mo) (hE : gEnv D gcl (gtys cs) gz B dE s) (hr : meth.sig.returnType = (some .int)) (hlocks : meth.locks = false) (n : Nat) (σ : mSt) (x1 : Int32) (x2 : Int32) (x3 : Int32) (z0 : Int32) (Fv : Int32 × mSt) (hS : S_Mo_function_j114 n σ x1 x2 x3 z0) (hF : F_Mo_function_j114 n σ x1 x2 x3 z0 = Fv) : GW p l e ({ frames := 2, cells := 0, slots := 0, locals := 47 } : Room) s m args below meth c 5 (gA B) (mQ below D cs B mo ad M0 (fun r σ' => r = some (.int Fv.1) ∧ σ' = Fv.2) args s) (mo_P D B cs mo ad M0 σ) 0 0 114 [(0, .ref mo), (1, .int x1), (2, .int x2), (3, .int x3)] [.int z0, .ref mo] := by
  unfold F_Mo_function_j114 at hF
  unfold S_Mo_function_j114 at hS
  refine m_puti C hE 4 (by decide) (by decide) rfl rfl kf_Mo_142 d_Mo_function_114 ?_
  refine g_aload_n C d_Mo_function_117 rfl ?_
  refine m_geti C hE 4 (by decide) (by decide) kf_Mo_142 d_Mo_function_118 ?_
  refine g_if_eq C 128 d_Mo_function_121 (by decide) (fun hc18 => ?_) (fun hc18 => ?_)
  · rw [if_pos hc18] at hF hS
    refine g_aload_n C d_Mo_function_128 rfl ?_
    refine g_iload_n C d_Mo_function_129 rfl ?_
    refine g_iload_n C d_Mo_function_130 rfl ?_
    refine g_iload_n C d_Mo_function_131 rfl ?_
    obtain ⟨hs20, hS⟩ := hS
    refine m_callV (n := 3) (av := [.int x1, .int x2, .int x3]) (rest := []) C hE (mc_Mo_typeOf l D cs B dE mo ad n _ _ _ _ hs20) km_Mo_198 kv_Mo_typeOf kl_Mo_typeOf kd_Mo_typeOf ki_Mo ⟨rfl, by decide, by decide, by decide⟩ rfl ⟨rfl, rfl⟩ (by decide) (by decide) d_Mo_function_132 (Nat.le_of_ble_eq_true rfl) _ rfl (fun v1 σ1 hv => ?_)
    obtain ⟨rfl, rfl⟩ := hv
    rw [mbind_eq] at hF hS
    generalize F_Mo_typeOf n (mo_si σ 4 z0) x1 x2 x3 = w19 at hF hS ⊢
    refine GW.eqs (st' := [.int w19.1]) rfl ?_
    exact m_iret C hr hlocks d_Mo_function_135 (by rw [← hF]; exact ⟨rfl, rfl⟩)
  · rw [if_neg hc18] at hF hS
    refine g_iconst (v := 0) C d_Mo_function_124 (by decide) ?_
    refine g_goto C 135 d_Mo_function_125 (by decide) ?_
    exact m_iret C hr hlocks d_Mo_function_135 (by rw [← hF]; exact ⟨rfl, rfl⟩)
def F_Mo_function_48 : Nat → mSt → Int32 → Int32 → Int32 → Int32 → Int32 × mSt
  | 0, σ, _, _, _, _ => (0, σ)
  | n + 1, σ, x1, x2, x3, x4 => if (σ.1 3) ≤ x4 then (if (σ.1 3) = 63 then (F_Mo_function_j114 n σ x1 x2 x3 2) else (F_Mo_function_j114 n σ x1 x2 x3 0)) else (if (σ.2.2.1 20 x4.toNatClampNeg) = x1 then (if (σ.2.2.1 21 x4.toNatClampNeg) = x2 then (if (σ.2.2.1 22 x4.toNatClampNeg) = x3 then ((x4, σ)) else (F_Mo_function_48 n σ x1 x2 x3 (x4 + 1))) else (F_Mo_function_48 n σ x1 x2 x3 (x4 + 1))) else (F_Mo_function_48 n σ x1 x2 x3 (x4 + 1)))
def S_Mo_function_48 : Nat → mSt → Int32 → Int32 → Int32 → Int32 → Prop
  | 0, _, _, _, _, _ => False
  | n + 1, σ, x1, x2, x3, x4 => if (σ.1 3) ≤ x4 then (if (σ.1 3) = 63 then (S_Mo_function_j114 n σ x1 x2 x3 2) else (S_Mo_function_j114 n σ x1 x2 x3 0)) else ((vp_in x4 520) ∧ (if (σ.2.2.1 20 x4.toNatClampNeg) = x1 then ((vp_in x4 520) ∧ (if (σ.2.2.1 21 x4.toNatClampNeg) = x2 then ((vp_in x4 520) ∧ (if (σ.2.2.1 22 x4.toNatClampNeg) = x3 then (True) else (S_Mo_function_48 n σ x1 x2 x3 (x4 + 1)))) else (S_Mo_function_48 n σ x1 x2 x3 (x4 + 1)))) else (S_Mo_function_48 n σ x1 x2 x3 (x4 + 1))))
set_option maxRecDepth 100000 in
set_option maxHeartbeats 4000000 in
theorem w_Mo_function_48 {p : Program} {l : Launch} {e : Env} {s : State} {m : MethodId} {args : Array Value} {below : List Frame} {meth : Method} {c : Code} {D : va_G} {cs : Nat → ClassId} {B : Nat} {dE : Nat × Nat} {mo : Nat} {ad : Nat → Nat} {M0 : gMem} (C : CallFix p m c c_Mo_function 5 s args gT R_Mo) (hE : gEnv D gcl (gtys cs) gz B dE s) (hr : meth.sig.returnType = (some .int)) (hlocks : meth.locks = false) (n : Nat) (σ : mSt) (x1 : Int32) (x2 : Int32) (x3 : Int32) (x4 : Int32) (Fv : Int32 × mSt) (hS : S_Mo_function_48 n σ x1 x2 x3 x4) (hF : F_Mo_function_48 n σ x1 x2 x3 x4 = Fv) : GW p l e ({ frames := 2, cells := 0, slots := 0, locals := 47 } : Room) s m args below meth c 5 (gA B) (mQ below D cs B mo ad M0 (fun r σ' => r = some (.int Fv.1) ∧ σ' = Fv.2) args s) (mo_P D B cs mo ad M0 σ) 0 0 48 [(0, .ref mo), (1, .int x1), (2, .int x2), (3, .int x3), (4, .int x4)] [] := by
  induction n generalizing σ x1 x2 x3 x4 Fv with
  | zero => exact hS.elim
  | succ n ih =>
    unfold F_Mo_function_48 at hF
    unfold S_Mo_function_48 at hS
    refine g_iload C d_Mo_function_48 rfl ?_
    refine g_aload_n C d_Mo_function_50 rfl ?_
    refine m_geti C hE 3 (by decide) (by decide) kf_Mo_155 d_Mo_function_51 ?_
    refine g_icmp_ge C 99 d_Mo_function_54 (by decide) (fun hc10 => ?_) (fun hc10 => ?_)
    · rw [if_pos hc10] at hF hS
      refine g_aload_n C d_Mo_function_99 rfl ?_
      refine g_aload_n C d_Mo_function_100 rfl ?_
      refine m_geti C hE 3 (by decide) (by decide) kf_Mo_155 d_Mo_function_101 ?_
      refine g_bipush (v := 63) C d_Mo_function_104 (by decide) ?_
      refine g_icmp_ne C 113 d_Mo_function_106 (by decide) (fun hc11 => ?_) (fun hc11 => ?_)
      · rw [if_neg hc11] at hF hS
        refine g_iconst (v := 0) C d_Mo_function_113 (by decide) ?_
        refine GW.subl [0, 1, 2, 3] rfl ?_
        exact w_Mo_function_j114 C hE hr hlocks n σ x1 x2 x3 0 Fv hS hF
      · rw [if_pos hc11] at hF hS
        refine g_iconst (v := 2) C d_Mo_function_109 (by decide) ?_
        refine g_goto C 114 d_Mo_function_110 (by decide) ?_
        refine GW.subl [0, 1, 2, 3] rfl ?_
        exact w_Mo_function_j114 C hE hr hlocks n σ x1 x2 x3 2 Fv hS hF
    · rw [if_neg hc10] at hF hS
      refine g_aload_n C d_Mo_function_57 rfl ?_
      refine m_geta C hE 20 (by decide) (by decide) (by decide) kf_Mo_55 d_Mo_function_58 ?_
      refine g_iload C d_Mo_function_61 rfl ?_
      obtain ⟨hi12, hS⟩ := hS
      refine m_ald C hE 20 (by decide) (by decide) hi12 d_Mo_function_63 ?_
      refine g_iload_n C d_Mo_function_64 rfl ?_
      refine g_icmp_ne C 93 d_Mo_function_65 (by decide) (fun hc13 => ?_) (fun hc13 => ?_)
      · rw [if_neg hc13] at hF hS
        refine g_iinc (v := x4 + 1) (lv' := [(4, .int (x4 + 1)), (0, .ref mo), (1, .int x1), (2, .int x2), (3, .int x3)]) C d_Mo_function_93 rfl rfl (by decide) rfl ?_
        refine g_goto C 48 d_Mo_function_96 (by decide) ?_
        refine GW.subl [1, 2, 3, 4, 0] rfl ?_
        exact ih σ x1 x2 x3 (x4 + 1) Fv hS hF
      · rw [if_pos hc13] at hF hS
        refine g_aload_n C d_Mo_function_68 rfl ?_
        refine m_geta C hE 21 (by decide) (by decide) (by decide) kf_Mo_58 d_Mo_function_69 ?_
        refine g_iload C d_Mo_function_72 rfl ?_
        obtain ⟨hi14, hS⟩ := hS
        refine m_ald C hE 21 (by decide) (by decide) hi14 d_Mo_function_74 ?_
        refine g_iload_n C d_Mo_function_75 rfl ?_
        refine g_icmp_ne C 93 d_Mo_function_76 (by decide) (fun hc15 => ?_) (fun hc15 => ?_)
        · rw [if_neg hc15] at hF hS
          refine g_iinc (v := x4 + 1) (lv' := [(4, .int (x4 + 1)), (0, .ref mo), (1, .int x1), (2, .int x2), (3, .int x3)]) C d_Mo_function_93 rfl rfl (by decide) rfl ?_
          refine g_goto C 48 d_Mo_function_96 (by decide) ?_
          refine GW.subl [1, 2, 3, 4, 0] rfl ?_
          exact ih σ x1 x2 x3 (x4 + 1) Fv hS hF
        · rw [if_pos hc15] at hF hS
          refine g_aload_n C d_Mo_function_79 rfl ?_
          refine m_geta C hE 22 (by decide) (by decide) (by decide) kf_Mo_61 d_Mo_function_80 ?_
          refine g_iload C d_Mo_function_83 rfl ?_
          obtain ⟨hi16, hS⟩ := hS
          refine m_ald C hE 22 (by decide) (by decide) hi16 d_Mo_function_85 ?_
          refine g_iload_n C d_Mo_function_86 rfl ?_
          refine g_icmp_ne C 93 d_Mo_function_87 (by decide) (fun hc17 => ?_) (fun hc17 => ?_)
          · rw [if_neg hc17] at hF hS
            refine g_iinc (v := x4 + 1) (lv' := [(4, .int (x4 + 1)), (0, .ref mo), (1, .int x1), (2, .int x2), (3, .int x3)]) C d_Mo_function_93 rfl rfl (by decide) rfl ?_
            refine g_goto C 48 d_Mo_function_96 (by decide) ?_
            refine GW.subl [1, 2, 3, 4, 0] rfl ?_
            exact ih σ x1 x2 x3 (x4 + 1) Fv hS hF
          · rw [if_pos hc17] at hF hS
            refine g_iload C d_Mo_function_90 rfl ?_
            exact m_iret C hr hlocks d_Mo_function_92 (by rw [← hF]; exact ⟨rfl, rfl⟩)
def F_Mo_function_j33 (n : Nat) (σ : mSt) (x1 : Int32) (x2 : Int32) (x3 : Int32) (z0 : Int32) : Int32 × mSt := if ((mo_si σ 4 z0).1 4) = 0 then (F_Mo_function_48 n (mo_si σ 4 z0) x1 x2 x3 3) else ((0, mo_si σ 4 z0))
def S_Mo_function_j33 (n : Nat) (σ : mSt) (x1 : Int32) (x2 : Int32) (x3 : Int32) (z0 : Int32) : Prop := if ((mo_si σ 4 z0).1 4) = 0 then (S_Mo_function_48 n (mo_si σ 4 z0) x1 x2 x3 3) else (True)
set_option maxRecDepth 100000 in
set_option maxHeartbeats 4000000 in
theorem w_Mo_function_j33 {p : Program} {l : Launch} {e : Env} {s : State} {m : MethodId} {args : Array Value} {below : List Frame} {meth : Method} {c : Code} {D : va_G} {cs : Nat → ClassId} {B : Nat} {dE : Nat × Nat} {mo : Nat} {ad : Nat → Nat} {M0 : gMem} (C : CallFix p m c c_Mo_function 5 s args gT R_Mo) (hE : gEnv D gcl (gtys cs) gz B dE s) (hr : meth.sig.returnType = (some .int)) (hlocks : meth.locks = false) (n : Nat) (σ : mSt) (x1 : Int32) (x2 : Int32) (x3 : Int32) (z0 : Int32) (Fv : Int32 × mSt) (hS : S_Mo_function_j33 n σ x1 x2 x3 z0) (hF : F_Mo_function_j33 n σ x1 x2 x3 z0 = Fv) : GW p l e ({ frames := 2, cells := 0, slots := 0, locals := 47 } : Room) s m args below meth c 5 (gA B) (mQ below D cs B mo ad M0 (fun r σ' => r = some (.int Fv.1) ∧ σ' = Fv.2) args s) (mo_P D B cs mo ad M0 σ) 0 0 33 [(0, .ref mo), (1, .int x1), (2, .int x2), (3, .int x3)] [.int z0, .ref mo] := by
  unfold F_Mo_function_j33 at hF
  unfold S_Mo_function_j33 at hS
  refine m_puti C hE 4 (by decide) (by decide) rfl rfl kf_Mo_142 d_Mo_function_33 ?_
  refine g_aload_n C d_Mo_function_36 rfl ?_
  refine m_geti C hE 4 (by decide) (by decide) kf_Mo_142 d_Mo_function_37 ?_
  refine g_if_eq C 45 d_Mo_function_40 (by decide) (fun hc9 => ?_) (fun hc9 => ?_)
  · rw [if_pos hc9] at hF hS
    refine g_iconst (v := 3) C d_Mo_function_45 (by decide) ?_
    refine g_istore (lv' := [(4, .int 3), (0, .ref mo), (1, .int x1), (2, .int x2), (3, .int x3)]) C d_Mo_function_46 (by decide) rfl ?_
    refine GW.subl [1, 2, 3, 4, 0] rfl ?_
    exact w_Mo_function_48 C hE hr hlocks n (mo_si σ 4 z0) x1 x2 x3 3 Fv hS hF
  · rw [if_neg hc9] at hF hS
    refine g_iconst (v := 0) C d_Mo_function_43 (by decide) ?_
    exact m_iret C hr hlocks d_Mo_function_44 (by rw [← hF]; exact ⟨rfl, rfl⟩)
def F_Mo_function_j28 (n : Nat) (σ : mSt) (x1 : Int32) (x2 : Int32) (x3 : Int32) : Int32 × mSt := F_Mo_function_j33 n σ x1 x2 x3 1
def S_Mo_function_j28 (n : Nat) (σ : mSt) (x1 : Int32) (x2 : Int32) (x3 : Int32) : Prop := S_Mo_function_j33 n σ x1 x2 x3 1
set_option maxRecDepth 100000 in
set_option maxHeartbeats 4000000 in
theorem w_Mo_function_j28 {p : Program} {l : Launch} {e : Env} {s : State} {m : MethodId} {args : Array Value} {below : List Frame} {meth : Method} {c : Code} {D : va_G} {cs : Nat → ClassId} {B : Nat} {dE : Nat × Nat} {mo : Nat} {ad : Nat → Nat} {M0 : gMem} (C : CallFix p m c c_Mo_function 5 s args gT R_Mo) (hE : gEnv D gcl (gtys cs) gz B dE s) (hr : meth.sig.returnType = (some .int)) (hlocks : meth.locks = false) (n : Nat) (σ : mSt) (x1 : Int32) (x2 : Int32) (x3 : Int32) (Fv : Int32 × mSt) (hS : S_Mo_function_j28 n σ x1 x2 x3) (hF : F_Mo_function_j28 n σ x1 x2 x3 = Fv) : GW p l e ({ frames := 2, cells := 0, slots := 0, locals := 47 } : Room) s m args below meth c 5 (gA B) (mQ below D cs B mo ad M0 (fun r σ' => r = some (.int Fv.1) ∧ σ' = Fv.2) args s) (mo_P D B cs mo ad M0 σ) 0 0 28 [(0, .ref mo), (1, .int x1), (2, .int x2), (3, .int x3)] [.ref mo] := by
  unfold F_Mo_function_j28 at hF
  unfold S_Mo_function_j28 at hS
  refine g_iconst (v := 1) C d_Mo_function_28 (by decide) ?_
  refine g_goto C 33 d_Mo_function_29 (by decide) ?_
  refine GW.subl [0, 1, 2, 3] rfl ?_
  exact w_Mo_function_j33 C hE hr hlocks n σ x1 x2 x3 1 Fv hS hF
def F_Mo_function (n : Nat) (σ : mSt) (x1 : Int32) (x2 : Int32) (x3 : Int32) : Int32 × mSt := mbind (F_Mo_isType σ x1) (fun w1 => if w1.1 = 0 then (F_Mo_function_j28 n w1.2 x1 x2 x3) else (mbind (F_Mo_isType w1.2 x2) (fun w4 => if w4.1 = 0 then (F_Mo_function_j28 n w4.2 x1 x2 x3) else (if x3 < 0 then (F_Mo_function_j28 n w4.2 x1 x2 x3) else (if x3 ≤ 255 then (F_Mo_function_j33 n w4.2 x1 x2 x3 0) else (F_Mo_function_j28 n w4.2 x1 x2 x3))))))
def S_Mo_function (n : Nat) (σ : mSt) (x1 : Int32) (x2 : Int32) (x3 : Int32) : Prop := (S_Mo_isType σ x1) ∧ (mbind (F_Mo_isType σ x1) (fun w1 => if w1.1 = 0 then (S_Mo_function_j28 n w1.2 x1 x2 x3) else ((S_Mo_isType w1.2 x2) ∧ (mbind (F_Mo_isType w1.2 x2) (fun w4 => if w4.1 = 0 then (S_Mo_function_j28 n w4.2 x1 x2 x3) else (if x3 < 0 then (S_Mo_function_j28 n w4.2 x1 x2 x3) else (if x3 ≤ 255 then (S_Mo_function_j33 n w4.2 x1 x2 x3 0) else (S_Mo_function_j28 n w4.2 x1 x2 x3))))))))
set_option maxRecDepth 100000 in
set_option maxHeartbeats 4000000 in
theorem mc_Mo_function (l : Launch) (D : va_G) (cs : Nat → ClassId) (B : Nat) (dE : Nat × Nat) (mo : Nat) (ad : Nat → Nat) (n : Nat) (σ : mSt) (x1 : Int32) (x2 : Int32) (x3 : Int32) (hS : S_Mo_function n σ x1 x2 x3) : mMet l y_Mo_function (Cond.code y_Mo_function c_Mo_function 5 (some .int)) ({ frames := 2, cells := 0, slots := 0, locals := 47 } : Room) D cs B dE mo ad [.ref mo, .int x1, .int x2, .int x3] σ (fun r σ' => r = some (.int (F_Mo_function n σ x1 x2 x3).1) ∧ σ' = (F_Mo_function n σ x1 x2 x3).2) := by
  refine mMet.ofW (by decide) rfl (Nat.le_of_ble_eq_true rfl) (lv0 := [(0, .ref mo), (1, .int x1), (2, .int x2), (3, .int x3)]) rfl ?_
  intro p e s m args below meth c M0 C hE hr hlocks
  generalize hF : F_Mo_function n σ x1 x2 x3 = Fv
  unfold F_Mo_function at hF
  unfold S_Mo_function at hS
  refine g_aload_n C d_Mo_function_0 rfl ?_
  refine g_aload_n C d_Mo_function_1 rfl ?_
  refine g_iload_n C d_Mo_function_2 rfl ?_
  obtain ⟨hs2, hS⟩ := hS
  refine m_callV (n := 1) (av := [.int x1]) (rest := [.ref mo]) C hE (mc_Mo_isType l D cs B dE mo ad _ _ hs2) km_Mo_194 kv_Mo_isType kl_Mo_isType kd_Mo_isType ki_Mo ⟨rfl, by decide, by decide, by decide⟩ rfl ⟨rfl, rfl⟩ (by decide) (by decide) d_Mo_function_3 (Nat.le_of_ble_eq_true rfl) _ rfl (fun v1 σ1 hv => ?_)
  obtain ⟨rfl, rfl⟩ := hv
  rw [mbind_eq] at hF hS
  generalize F_Mo_isType σ x1 = w1 at hF hS ⊢
  refine GW.eqs (st' := [.int w1.1, .ref mo]) rfl ?_
  refine g_if_eq C 28 d_Mo_function_6 (by decide) (fun hc3 => ?_) (fun hc3 => ?_)
  · rw [if_pos hc3] at hF hS
    refine GW.subl [0, 1, 2, 3] rfl ?_
    exact w_Mo_function_j28 C hE hr hlocks n w1.2 x1 x2 x3 Fv hS hF
  · rw [if_neg hc3] at hF hS
    refine g_aload_n C d_Mo_function_9 rfl ?_
    refine g_iload_n C d_Mo_function_10 rfl ?_
    obtain ⟨hs5, hS⟩ := hS
    refine m_callV (n := 1) (av := [.int x2]) (rest := [.ref mo]) C hE (mc_Mo_isType l D cs B dE mo ad _ _ hs5) km_Mo_194 kv_Mo_isType kl_Mo_isType kd_Mo_isType ki_Mo ⟨rfl, by decide, by decide, by decide⟩ rfl ⟨rfl, rfl⟩ (by decide) (by decide) d_Mo_function_11 (Nat.le_of_ble_eq_true rfl) _ rfl (fun v1 σ1 hv => ?_)
    obtain ⟨rfl, rfl⟩ := hv
    rw [mbind_eq] at hF hS
    generalize F_Mo_isType w1.2 x2 = w4 at hF hS ⊢
    refine GW.eqs (st' := [.int w4.1, .ref mo]) rfl ?_
    refine g_if_eq C 28 d_Mo_function_14 (by decide) (fun hc6 => ?_) (fun hc6 => ?_)
    · rw [if_pos hc6] at hF hS
      refine GW.subl [0, 1, 2, 3] rfl ?_
      exact w_Mo_function_j28 C hE hr hlocks n w4.2 x1 x2 x3 Fv hS hF
    · rw [if_neg hc6] at hF hS
      refine g_iload_n C d_Mo_function_17 rfl ?_
      refine g_if_lt C 28 d_Mo_function_18 (by decide) (fun hc7 => ?_) (fun hc7 => ?_)
      · rw [if_pos hc7] at hF hS
        refine GW.subl [0, 1, 2, 3] rfl ?_
        exact w_Mo_function_j28 C hE hr hlocks n w4.2 x1 x2 x3 Fv hS hF
      · rw [if_neg hc7] at hF hS
        refine g_iload_n C d_Mo_function_21 rfl ?_
        refine g_sipush (v := 255) C d_Mo_function_22 (by decide) ?_
        refine g_icmp_le C 32 d_Mo_function_25 (by decide) (fun hc8 => ?_) (fun hc8 => ?_)
        · rw [if_pos hc8] at hF hS
          refine g_iconst (v := 0) C d_Mo_function_32 (by decide) ?_
          refine GW.subl [0, 1, 2, 3] rfl ?_
          exact w_Mo_function_j33 C hE hr hlocks n w4.2 x1 x2 x3 0 Fv hS hF
        · rw [if_neg hc8] at hF hS
          refine GW.subl [0, 1, 2, 3] rfl ?_
          exact w_Mo_function_j28 C hE hr hlocks n w4.2 x1 x2 x3 Fv hS hF
def F_Mo_isEffect (σ : mSt) (x0 : Int32) : Int32 × mSt := if x0 < 0 then ((0, σ)) else (if 8 ≤ x0 then ((0, σ)) else ((1, σ)))
def S_Mo_isEffect (σ : mSt) (x0 : Int32) : Prop := if x0 < 0 then (True) else (if 8 ≤ x0 then (True) else (True))
set_option maxRecDepth 100000 in
set_option maxHeartbeats 4000000 in
theorem mc_Mo_isEffect (l : Launch) (D : va_G) (cs : Nat → ClassId) (B : Nat) (dE : Nat × Nat) (mo : Nat) (ad : Nat → Nat) (σ : mSt) (x0 : Int32) (hS : S_Mo_isEffect σ x0) : mMet l y_Mo_isEffect (Cond.code y_Mo_isEffect c_Mo_isEffect 1 (some .boolean)) ({ frames := 0, cells := 0, slots := 0, locals := 0 } : Room) D cs B dE mo ad [.int x0] σ (fun r σ' => r = some (.int (F_Mo_isEffect σ x0).1) ∧ σ' = (F_Mo_isEffect σ x0).2) := by
  refine mMet.ofW (by decide) rfl (Nat.le_of_ble_eq_true rfl) (lv0 := [(0, .int x0)]) rfl ?_
  intro p e s m args below meth c M0 C hE hr hlocks
  generalize hF : F_Mo_isEffect σ x0 = Fv
  unfold F_Mo_isEffect at hF
  unfold S_Mo_isEffect at hS
  refine g_iload_n C d_Mo_isEffect_0 rfl ?_
  refine g_if_lt C 14 d_Mo_isEffect_1 (by decide) (fun hc1 => ?_) (fun hc1 => ?_)
  · rw [if_pos hc1] at hF hS
    refine g_iconst (v := 0) C d_Mo_isEffect_14 (by decide) ?_
    exact m_zret C hr hlocks (by decide) d_Mo_isEffect_15 (by rw [← hF]; exact ⟨rfl, rfl⟩)
  · rw [if_neg hc1] at hF hS
    refine g_iload_n C d_Mo_isEffect_4 rfl ?_
    refine g_bipush (v := 8) C d_Mo_isEffect_5 (by decide) ?_
    refine g_icmp_ge C 14 d_Mo_isEffect_7 (by decide) (fun hc2 => ?_) (fun hc2 => ?_)
    · rw [if_pos hc2] at hF hS
      refine g_iconst (v := 0) C d_Mo_isEffect_14 (by decide) ?_
      exact m_zret C hr hlocks (by decide) d_Mo_isEffect_15 (by rw [← hF]; exact ⟨rfl, rfl⟩)
    · rw [if_neg hc2] at hF hS
      refine g_iconst (v := 1) C d_Mo_isEffect_10 (by decide) ?_
      refine g_goto C 15 d_Mo_isEffect_11 (by decide) ?_
      exact m_zret C hr hlocks (by decide) d_Mo_isEffect_15 (by rw [← hF]; exact ⟨rfl, rfl⟩)
def F_Mo_effect_j29 (σ : mSt) (x1 : Int32) (x2 : Int32) (x3 : Int32) (z0 : Int32) : mSt := if ((mo_si σ 4 z0).1 4) = 0 then (mo_ai (mo_ai (mo_si σ 4 z0) 24 x1.toNatClampNeg x2) 25 x1.toNatClampNeg x3) else (mo_si σ 4 z0)
def S_Mo_effect_j29 (σ : mSt) (x1 : Int32) (x2 : Int32) (x3 : Int32) (z0 : Int32) : Prop := if ((mo_si σ 4 z0).1 4) = 0 then ((vp_in x1 8) ∧ ((vp_in x1 8) ∧ (True))) else (True)
set_option maxRecDepth 100000 in
set_option maxHeartbeats 4000000 in
theorem w_Mo_effect_j29 {p : Program} {l : Launch} {e : Env} {s : State} {m : MethodId} {args : Array Value} {below : List Frame} {meth : Method} {c : Code} {D : va_G} {cs : Nat → ClassId} {B : Nat} {dE : Nat × Nat} {mo : Nat} {ad : Nat → Nat} {M0 : gMem} (C : CallFix p m c c_Mo_effect 4 s args gT R_Mo) (hE : gEnv D gcl (gtys cs) gz B dE s) (hr : meth.sig.returnType = none) (hlocks : meth.locks = false) (σ : mSt) (x1 : Int32) (x2 : Int32) (x3 : Int32) (z0 : Int32) (Fv : mSt) (hS : S_Mo_effect_j29 σ x1 x2 x3 z0) (hF : F_Mo_effect_j29 σ x1 x2 x3 z0 = Fv) : GW p l e ({ frames := 1, cells := 0, slots := 0, locals := 21 } : Room) s m args below meth c 4 (gA B) (mQ below D cs B mo ad M0 (fun r σ' => r = none ∧ σ' = Fv) args s) (mo_P D B cs mo ad M0 σ) 0 0 29 [(0, .ref mo), (1, .int x1), (2, .int x2), (3, .int x3)] [.int z0, .ref mo] := by
  unfold F_Mo_effect_j29 at hF
  unfold S_Mo_effect_j29 at hS
  refine m_puti C hE 4 (by decide) (by decide) rfl rfl kf_Mo_142 d_Mo_effect_29 ?_
  refine g_aload_n C d_Mo_effect_32 rfl ?_
  refine m_geti C hE 4 (by decide) (by decide) kf_Mo_142 d_Mo_effect_33 ?_
  refine g_if_eq C 40 d_Mo_effect_36 (by decide) (fun hc10 => ?_) (fun hc10 => ?_)
  · rw [if_pos hc10] at hF hS
    refine g_aload_n C d_Mo_effect_40 rfl ?_
    refine m_geta C hE 24 (by decide) (by decide) (by decide) kf_Mo_69 d_Mo_effect_41 ?_
    refine g_iload_n C d_Mo_effect_44 rfl ?_
    refine g_iload_n C d_Mo_effect_45 rfl ?_
    obtain ⟨hi11, hS⟩ := hS
    refine m_ast C hE 24 (by decide) (by decide) hi11 d_Mo_effect_46 ?_
    refine g_aload_n C d_Mo_effect_47 rfl ?_
    refine m_geta C hE 25 (by decide) (by decide) (by decide) kf_Mo_72 d_Mo_effect_48 ?_
    refine g_iload_n C d_Mo_effect_51 rfl ?_
    refine g_iload_n C d_Mo_effect_52 rfl ?_
    obtain ⟨hi12, hS⟩ := hS
    refine m_ast C hE 25 (by decide) (by decide) hi12 d_Mo_effect_53 ?_
    exact m_vret C hr hlocks d_Mo_effect_54 (by rw [← hF]; exact ⟨rfl, rfl⟩)
  · rw [if_neg hc10] at hF hS
    exact m_vret C hr hlocks d_Mo_effect_39 (by rw [← hF]; exact ⟨rfl, rfl⟩)
def F_Mo_effect_j28 (σ : mSt) (x1 : Int32) (x2 : Int32) (x3 : Int32) : mSt := F_Mo_effect_j29 σ x1 x2 x3 1
def S_Mo_effect_j28 (σ : mSt) (x1 : Int32) (x2 : Int32) (x3 : Int32) : Prop := S_Mo_effect_j29 σ x1 x2 x3 1
set_option maxRecDepth 100000 in
set_option maxHeartbeats 4000000 in
theorem w_Mo_effect_j28 {p : Program} {l : Launch} {e : Env} {s : State} {m : MethodId} {args : Array Value} {below : List Frame} {meth : Method} {c : Code} {D : va_G} {cs : Nat → ClassId} {B : Nat} {dE : Nat × Nat} {mo : Nat} {ad : Nat → Nat} {M0 : gMem} (C : CallFix p m c c_Mo_effect 4 s args gT R_Mo) (hE : gEnv D gcl (gtys cs) gz B dE s) (hr : meth.sig.returnType = none) (hlocks : meth.locks = false) (σ : mSt) (x1 : Int32) (x2 : Int32) (x3 : Int32) (Fv : mSt) (hS : S_Mo_effect_j28 σ x1 x2 x3) (hF : F_Mo_effect_j28 σ x1 x2 x3 = Fv) : GW p l e ({ frames := 1, cells := 0, slots := 0, locals := 21 } : Room) s m args below meth c 4 (gA B) (mQ below D cs B mo ad M0 (fun r σ' => r = none ∧ σ' = Fv) args s) (mo_P D B cs mo ad M0 σ) 0 0 28 [(0, .ref mo), (1, .int x1), (2, .int x2), (3, .int x3)] [.ref mo] := by
  unfold F_Mo_effect_j28 at hF
  unfold S_Mo_effect_j28 at hS
  refine g_iconst (v := 1) C d_Mo_effect_28 (by decide) ?_
  refine GW.subl [0, 1, 2, 3] rfl ?_
  exact w_Mo_effect_j29 C hE hr hlocks σ x1 x2 x3 1 Fv hS hF
def F_Mo_effect (σ : mSt) (x1 : Int32) (x2 : Int32) (x3 : Int32) : mSt := mbind (F_Mo_isEffect σ x1) (fun w1 => if w1.1 = 0 then (F_Mo_effect_j28 w1.2 x1 x2 x3) else (mbind (F_Mo_isType w1.2 x2) (fun w4 => if w4.1 = 0 then (F_Mo_effect_j28 w4.2 x1 x2 x3) else (mbind (F_Mo_isType w4.2 x3) (fun w7 => if w7.1 = 0 then (F_Mo_effect_j28 w7.2 x1 x2 x3) else (F_Mo_effect_j29 w7.2 x1 x2 x3 0))))))
def S_Mo_effect (σ : mSt) (x1 : Int32) (x2 : Int32) (x3 : Int32) : Prop := (S_Mo_isEffect σ x1) ∧ (mbind (F_Mo_isEffect σ x1) (fun w1 => if w1.1 = 0 then (S_Mo_effect_j28 w1.2 x1 x2 x3) else ((S_Mo_isType w1.2 x2) ∧ (mbind (F_Mo_isType w1.2 x2) (fun w4 => if w4.1 = 0 then (S_Mo_effect_j28 w4.2 x1 x2 x3) else ((S_Mo_isType w4.2 x3) ∧ (mbind (F_Mo_isType w4.2 x3) (fun w7 => if w7.1 = 0 then (S_Mo_effect_j28 w7.2 x1 x2 x3) else (S_Mo_effect_j29 w7.2 x1 x2 x3 0)))))))))
set_option maxRecDepth 100000 in
set_option maxHeartbeats 4000000 in
theorem mc_Mo_effect (l : Launch) (D : va_G) (cs : Nat → ClassId) (B : Nat) (dE : Nat × Nat) (mo : Nat) (ad : Nat → Nat) (σ : mSt) (x1 : Int32) (x2 : Int32) (x3 : Int32) (hS : S_Mo_effect σ x1 x2 x3) : mMet l y_Mo_effect (Cond.code y_Mo_effect c_Mo_effect 4 none) ({ frames := 1, cells := 0, slots := 0, locals := 21 } : Room) D cs B dE mo ad [.ref mo, .int x1, .int x2, .int x3] σ (fun r σ' => r = none ∧ σ' = F_Mo_effect σ x1 x2 x3) := by
  refine mMet.ofW (by decide) rfl (Nat.le_of_ble_eq_true rfl) (lv0 := [(0, .ref mo), (1, .int x1), (2, .int x2), (3, .int x3)]) rfl ?_
  intro p e s m args below meth c M0 C hE hr hlocks
  generalize hF : F_Mo_effect σ x1 x2 x3 = Fv
  unfold F_Mo_effect at hF
  unfold S_Mo_effect at hS
  refine g_aload_n C d_Mo_effect_0 rfl ?_
  refine g_iload_n C d_Mo_effect_1 rfl ?_
  obtain ⟨hs2, hS⟩ := hS
  refine m_callS (n := 1) (av := [.int x1]) (rest := [.ref mo]) C hE (mc_Mo_isEffect l D cs B dE mo ad _ _ hs2) km_Mo_202 ks_Mo_isEffect kd_Mo_isEffect ki_Mo ⟨rfl, by decide, by decide, by decide⟩ rfl ⟨rfl, rfl⟩ (by decide) (by decide) d_Mo_effect_2 (Nat.le_of_ble_eq_true rfl) _ rfl (fun v1 σ1 hv => ?_)
  obtain ⟨rfl, rfl⟩ := hv
  rw [mbind_eq] at hF hS
  generalize F_Mo_isEffect σ x1 = w1 at hF hS ⊢
  refine GW.eqs (st' := [.int w1.1, .ref mo]) rfl ?_
  refine g_if_eq C 28 d_Mo_effect_5 (by decide) (fun hc3 => ?_) (fun hc3 => ?_)
  · rw [if_pos hc3] at hF hS
    refine GW.subl [0, 1, 2, 3] rfl ?_
    exact w_Mo_effect_j28 C hE hr hlocks w1.2 x1 x2 x3 Fv hS hF
  · rw [if_neg hc3] at hF hS
    refine g_aload_n C d_Mo_effect_8 rfl ?_
    refine g_iload_n C d_Mo_effect_9 rfl ?_
    obtain ⟨hs5, hS⟩ := hS
    refine m_callV (n := 1) (av := [.int x2]) (rest := [.ref mo]) C hE (mc_Mo_isType l D cs B dE mo ad _ _ hs5) km_Mo_194 kv_Mo_isType kl_Mo_isType kd_Mo_isType ki_Mo ⟨rfl, by decide, by decide, by decide⟩ rfl ⟨rfl, rfl⟩ (by decide) (by decide) d_Mo_effect_10 (Nat.le_of_ble_eq_true rfl) _ rfl (fun v1 σ1 hv => ?_)
    obtain ⟨rfl, rfl⟩ := hv
    rw [mbind_eq] at hF hS
    generalize F_Mo_isType w1.2 x2 = w4 at hF hS ⊢
    refine GW.eqs (st' := [.int w4.1, .ref mo]) rfl ?_
    refine g_if_eq C 28 d_Mo_effect_13 (by decide) (fun hc6 => ?_) (fun hc6 => ?_)
    · rw [if_pos hc6] at hF hS
      refine GW.subl [0, 1, 2, 3] rfl ?_
      exact w_Mo_effect_j28 C hE hr hlocks w4.2 x1 x2 x3 Fv hS hF
    · rw [if_neg hc6] at hF hS
      refine g_aload_n C d_Mo_effect_16 rfl ?_
      refine g_iload_n C d_Mo_effect_17 rfl ?_
      obtain ⟨hs8, hS⟩ := hS
      refine m_callV (n := 1) (av := [.int x3]) (rest := [.ref mo]) C hE (mc_Mo_isType l D cs B dE mo ad _ _ hs8) km_Mo_194 kv_Mo_isType kl_Mo_isType kd_Mo_isType ki_Mo ⟨rfl, by decide, by decide, by decide⟩ rfl ⟨rfl, rfl⟩ (by decide) (by decide) d_Mo_effect_18 (Nat.le_of_ble_eq_true rfl) _ rfl (fun v1 σ1 hv => ?_)
      obtain ⟨rfl, rfl⟩ := hv
      rw [mbind_eq] at hF hS
      generalize F_Mo_isType w4.2 x3 = w7 at hF hS ⊢
      refine GW.eqs (st' := [.int w7.1, .ref mo]) rfl ?_
      refine g_if_eq C 28 d_Mo_effect_21 (by decide) (fun hc9 => ?_) (fun hc9 => ?_)
      · rw [if_pos hc9] at hF hS
        refine GW.subl [0, 1, 2, 3] rfl ?_
        exact w_Mo_effect_j28 C hE hr hlocks w7.2 x1 x2 x3 Fv hS hF
      · rw [if_neg hc9] at hF hS
        refine g_iconst (v := 0) C d_Mo_effect_24 (by decide) ?_
        refine g_goto C 29 d_Mo_effect_25 (by decide) ?_
        refine GW.subl [0, 1, 2, 3] rfl ?_
        exact w_Mo_effect_j29 C hE hr hlocks w7.2 x1 x2 x3 0 Fv hS hF
def F_Mo_type (σ : mSt) (x1 : Int32) (x2 : Int32) : Int32 × mSt := if x1 < 3 then (((-1), mo_si σ 4 0)) else (if x1 < ((mo_si σ 4 0).1 3) then (if x2 = 0 then (((mo_si σ 4 0).2.2.1 20 x1.toNatClampNeg, mo_si σ 4 0)) else (if x2 = 1 then (((mo_si σ 4 0).2.2.1 21 x1.toNatClampNeg, mo_si σ 4 0)) else (if x2 = 2 then (((mo_si σ 4 0).2.2.1 22 x1.toNatClampNeg, mo_si σ 4 0)) else (((-1), mo_si σ 4 0))))) else (((-1), mo_si σ 4 0)))
def S_Mo_type (σ : mSt) (x1 : Int32) (x2 : Int32) : Prop := if x1 < 3 then (True) else (if x1 < ((mo_si σ 4 0).1 3) then (if x2 = 0 then ((vp_in x1 520) ∧ (True)) else (if x2 = 1 then ((vp_in x1 520) ∧ (True)) else (if x2 = 2 then ((vp_in x1 520) ∧ (True)) else (True)))) else (True))
set_option maxRecDepth 100000 in
set_option maxHeartbeats 4000000 in
theorem mc_Mo_type (l : Launch) (D : va_G) (cs : Nat → ClassId) (B : Nat) (dE : Nat × Nat) (mo : Nat) (ad : Nat → Nat) (σ : mSt) (x1 : Int32) (x2 : Int32) (hS : S_Mo_type σ x1 x2) : mMet l y_Mo_type (Cond.code y_Mo_type c_Mo_type 3 (some .int)) ({ frames := 0, cells := 0, slots := 0, locals := 0 } : Room) D cs B dE mo ad [.ref mo, .int x1, .int x2] σ (fun r σ' => r = some (.int (F_Mo_type σ x1 x2).1) ∧ σ' = (F_Mo_type σ x1 x2).2) := by
  refine mMet.ofW (by decide) rfl (Nat.le_of_ble_eq_true rfl) (lv0 := [(0, .ref mo), (1, .int x1), (2, .int x2)]) rfl ?_
  intro p e s m args below meth c M0 C hE hr hlocks
  generalize hF : F_Mo_type σ x1 x2 = Fv
  unfold F_Mo_type at hF
  unfold S_Mo_type at hS
  refine g_aload_n C d_Mo_type_0 rfl ?_
  refine g_iconst (v := 0) C d_Mo_type_1 (by decide) ?_
  refine m_puti C hE 4 (by decide) (by decide) rfl rfl kf_Mo_142 d_Mo_type_2 ?_
  refine g_iload_n C d_Mo_type_5 rfl ?_
  refine g_iconst (v := 3) C d_Mo_type_6 (by decide) ?_
  refine g_icmp_lt C 18 d_Mo_type_7 (by decide) (fun hc1 => ?_) (fun hc1 => ?_)
  · rw [if_pos hc1] at hF hS
    refine g_iconst (v := (-1)) C d_Mo_type_18 (by decide) ?_
    exact m_iret C hr hlocks d_Mo_type_19 (by rw [← hF]; exact ⟨rfl, rfl⟩)
  · rw [if_neg hc1] at hF hS
    refine g_iload_n C d_Mo_type_10 rfl ?_
    refine g_aload_n C d_Mo_type_11 rfl ?_
    refine m_geti C hE 3 (by decide) (by decide) kf_Mo_155 d_Mo_type_12 ?_
    refine g_icmp_lt C 20 d_Mo_type_15 (by decide) (fun hc2 => ?_) (fun hc2 => ?_)
    · rw [if_pos hc2] at hF hS
      refine g_iload_n C d_Mo_type_20 rfl ?_
      refine g_if_ne C 33 d_Mo_type_21 (by decide) (fun hc3 => ?_) (fun hc3 => ?_)
      · rw [if_neg hc3] at hF hS
        refine g_iload_n C d_Mo_type_33 rfl ?_
        refine g_iconst (v := 1) C d_Mo_type_34 (by decide) ?_
        refine g_icmp_ne C 47 d_Mo_type_35 (by decide) (fun hc4 => ?_) (fun hc4 => ?_)
        · rw [if_neg hc4] at hF hS
          refine g_iload_n C d_Mo_type_47 rfl ?_
          refine g_iconst (v := 2) C d_Mo_type_48 (by decide) ?_
          refine g_icmp_ne C 61 d_Mo_type_49 (by decide) (fun hc5 => ?_) (fun hc5 => ?_)
          · rw [if_neg hc5] at hF hS
            refine g_iconst (v := (-1)) C d_Mo_type_61 (by decide) ?_
            exact m_iret C hr hlocks d_Mo_type_62 (by rw [← hF]; exact ⟨rfl, rfl⟩)
          · rw [if_pos hc5] at hF hS
            refine g_aload_n C d_Mo_type_52 rfl ?_
            refine m_geta C hE 22 (by decide) (by decide) (by decide) kf_Mo_61 d_Mo_type_53 ?_
            refine g_iload_n C d_Mo_type_56 rfl ?_
            obtain ⟨hi6, hS⟩ := hS
            refine m_ald C hE 22 (by decide) (by decide) hi6 d_Mo_type_57 ?_
            refine g_goto C 62 d_Mo_type_58 (by decide) ?_
            exact m_iret C hr hlocks d_Mo_type_62 (by rw [← hF]; exact ⟨rfl, rfl⟩)
        · rw [if_pos hc4] at hF hS
          refine g_aload_n C d_Mo_type_38 rfl ?_
          refine m_geta C hE 21 (by decide) (by decide) (by decide) kf_Mo_58 d_Mo_type_39 ?_
          refine g_iload_n C d_Mo_type_42 rfl ?_
          obtain ⟨hi7, hS⟩ := hS
          refine m_ald C hE 21 (by decide) (by decide) hi7 d_Mo_type_43 ?_
          refine g_goto C 62 d_Mo_type_44 (by decide) ?_
          exact m_iret C hr hlocks d_Mo_type_62 (by rw [← hF]; exact ⟨rfl, rfl⟩)
      · rw [if_pos hc3] at hF hS
        refine g_aload_n C d_Mo_type_24 rfl ?_
        refine m_geta C hE 20 (by decide) (by decide) (by decide) kf_Mo_55 d_Mo_type_25 ?_
        refine g_iload_n C d_Mo_type_28 rfl ?_
        obtain ⟨hi8, hS⟩ := hS
        refine m_ald C hE 20 (by decide) (by decide) hi8 d_Mo_type_29 ?_
        refine g_goto C 62 d_Mo_type_30 (by decide) ?_
        exact m_iret C hr hlocks d_Mo_type_62 (by rw [← hF]; exact ⟨rfl, rfl⟩)
    · rw [if_neg hc2] at hF hS
      refine g_iconst (v := (-1)) C d_Mo_type_18 (by decide) ?_
      exact m_iret C hr hlocks d_Mo_type_19 (by rw [← hF]; exact ⟨rfl, rfl⟩)
def F_Mo_fits (σ : mSt) (x1 : Int32) (x2 : Int32) : Int32 × mSt := mbind (F_Mo_isType (mo_si σ 4 0) x1) (fun w1 => if w1.1 = 0 then ((0, w1.2)) else (mbind (F_Mo_isType w1.2 x2) (fun w4 => if w4.1 = 0 then ((0, w4.2)) else (if (w4.2.2.2.1 23 ((520 * x1) + x2).toNatClampNeg) = 0 then ((0, w4.2)) else ((1, w4.2))))))
def S_Mo_fits (σ : mSt) (x1 : Int32) (x2 : Int32) : Prop := (S_Mo_isType (mo_si σ 4 0) x1) ∧ (mbind (F_Mo_isType (mo_si σ 4 0) x1) (fun w1 => if w1.1 = 0 then (True) else ((S_Mo_isType w1.2 x2) ∧ (mbind (F_Mo_isType w1.2 x2) (fun w4 => if w4.1 = 0 then (True) else ((vp_in ((520 * x1) + x2) 270400) ∧ (if (w4.2.2.2.1 23 ((520 * x1) + x2).toNatClampNeg) = 0 then (True) else (True))))))))
set_option maxRecDepth 100000 in
set_option maxHeartbeats 4000000 in
theorem mc_Mo_fits (l : Launch) (D : va_G) (cs : Nat → ClassId) (B : Nat) (dE : Nat × Nat) (mo : Nat) (ad : Nat → Nat) (σ : mSt) (x1 : Int32) (x2 : Int32) (hS : S_Mo_fits σ x1 x2) : mMet l y_Mo_fits (Cond.code y_Mo_fits c_Mo_fits 3 (some .boolean)) ({ frames := 1, cells := 0, slots := 0, locals := 21 } : Room) D cs B dE mo ad [.ref mo, .int x1, .int x2] σ (fun r σ' => r = some (.int (F_Mo_fits σ x1 x2).1) ∧ σ' = (F_Mo_fits σ x1 x2).2) := by
  refine mMet.ofW (by decide) rfl (Nat.le_of_ble_eq_true rfl) (lv0 := [(0, .ref mo), (1, .int x1), (2, .int x2)]) rfl ?_
  intro p e s m args below meth c M0 C hE hr hlocks
  generalize hF : F_Mo_fits σ x1 x2 = Fv
  unfold F_Mo_fits at hF
  unfold S_Mo_fits at hS
  refine g_aload_n C d_Mo_fits_0 rfl ?_
  refine g_iconst (v := 0) C d_Mo_fits_1 (by decide) ?_
  refine m_puti C hE 4 (by decide) (by decide) rfl rfl kf_Mo_142 d_Mo_fits_2 ?_
  refine g_aload_n C d_Mo_fits_5 rfl ?_
  refine g_iload_n C d_Mo_fits_6 rfl ?_
  obtain ⟨hs2, hS⟩ := hS
  refine m_callV (n := 1) (av := [.int x1]) (rest := []) C hE (mc_Mo_isType l D cs B dE mo ad _ _ hs2) km_Mo_194 kv_Mo_isType kl_Mo_isType kd_Mo_isType ki_Mo ⟨rfl, by decide, by decide, by decide⟩ rfl ⟨rfl, rfl⟩ (by decide) (by decide) d_Mo_fits_7 (Nat.le_of_ble_eq_true rfl) _ rfl (fun v1 σ1 hv => ?_)
  obtain ⟨rfl, rfl⟩ := hv
  rw [mbind_eq] at hF hS
  generalize F_Mo_isType (mo_si σ 4 0) x1 = w1 at hF hS ⊢
  refine GW.eqs (st' := [.int w1.1]) rfl ?_
  refine g_if_eq C 40 d_Mo_fits_10 (by decide) (fun hc3 => ?_) (fun hc3 => ?_)
  · rw [if_pos hc3] at hF hS
    refine g_iconst (v := 0) C d_Mo_fits_40 (by decide) ?_
    exact m_zret C hr hlocks (by decide) d_Mo_fits_41 (by rw [← hF]; exact ⟨rfl, rfl⟩)
  · rw [if_neg hc3] at hF hS
    refine g_aload_n C d_Mo_fits_13 rfl ?_
    refine g_iload_n C d_Mo_fits_14 rfl ?_
    obtain ⟨hs5, hS⟩ := hS
    refine m_callV (n := 1) (av := [.int x2]) (rest := []) C hE (mc_Mo_isType l D cs B dE mo ad _ _ hs5) km_Mo_194 kv_Mo_isType kl_Mo_isType kd_Mo_isType ki_Mo ⟨rfl, by decide, by decide, by decide⟩ rfl ⟨rfl, rfl⟩ (by decide) (by decide) d_Mo_fits_15 (Nat.le_of_ble_eq_true rfl) _ rfl (fun v1 σ1 hv => ?_)
    obtain ⟨rfl, rfl⟩ := hv
    rw [mbind_eq] at hF hS
    generalize F_Mo_isType w1.2 x2 = w4 at hF hS ⊢
    refine GW.eqs (st' := [.int w4.1]) rfl ?_
    refine g_if_eq C 40 d_Mo_fits_18 (by decide) (fun hc6 => ?_) (fun hc6 => ?_)
    · rw [if_pos hc6] at hF hS
      refine g_iconst (v := 0) C d_Mo_fits_40 (by decide) ?_
      exact m_zret C hr hlocks (by decide) d_Mo_fits_41 (by rw [← hF]; exact ⟨rfl, rfl⟩)
    · rw [if_neg hc6] at hF hS
      refine g_aload_n C d_Mo_fits_21 rfl ?_
      refine m_geta C hE 23 (by decide) (by decide) (by decide) kf_Mo_65 d_Mo_fits_22 ?_
      refine g_sipush (v := 520) C d_Mo_fits_25 (by decide) ?_
      refine g_iload_n C d_Mo_fits_28 rfl ?_
      refine g_imul C d_Mo_fits_29 ?_
      refine g_iload_n C d_Mo_fits_30 rfl ?_
      refine g_iadd C d_Mo_fits_31 ?_
      obtain ⟨hi7, hS⟩ := hS
      refine m_zald C hE 23 (by decide) (by decide) hi7 d_Mo_fits_32 ?_
      refine g_if_eq C 40 d_Mo_fits_33 (by decide) (fun hc8 => ?_) (fun hc8 => ?_)
      · rw [if_pos hc8] at hF hS
        refine g_iconst (v := 0) C d_Mo_fits_40 (by decide) ?_
        exact m_zret C hr hlocks (by decide) d_Mo_fits_41 (by rw [← hF]; exact ⟨rfl, rfl⟩)
      · rw [if_neg hc8] at hF hS
        refine g_iconst (v := 1) C d_Mo_fits_36 (by decide) ?_
        refine g_goto C 41 d_Mo_fits_37 (by decide) ?_
        exact m_zret C hr hlocks (by decide) d_Mo_fits_41 (by rw [← hF]; exact ⟨rfl, rfl⟩)
def F_Mo_isNode (σ : mSt) (x1 : Int32) : Int32 × mSt := if x1 < 0 then ((0, σ)) else (if (σ.1 0) ≤ x1 then ((0, σ)) else ((1, σ)))
def S_Mo_isNode (σ : mSt) (x1 : Int32) : Prop := if x1 < 0 then (True) else (if (σ.1 0) ≤ x1 then (True) else (True))
set_option maxRecDepth 100000 in
set_option maxHeartbeats 4000000 in
theorem mc_Mo_isNode (l : Launch) (D : va_G) (cs : Nat → ClassId) (B : Nat) (dE : Nat × Nat) (mo : Nat) (ad : Nat → Nat) (σ : mSt) (x1 : Int32) (hS : S_Mo_isNode σ x1) : mMet l y_Mo_isNode (Cond.code y_Mo_isNode c_Mo_isNode 2 (some .boolean)) ({ frames := 0, cells := 0, slots := 0, locals := 0 } : Room) D cs B dE mo ad [.ref mo, .int x1] σ (fun r σ' => r = some (.int (F_Mo_isNode σ x1).1) ∧ σ' = (F_Mo_isNode σ x1).2) := by
  refine mMet.ofW (by decide) rfl (Nat.le_of_ble_eq_true rfl) (lv0 := [(0, .ref mo), (1, .int x1)]) rfl ?_
  intro p e s m args below meth c M0 C hE hr hlocks
  generalize hF : F_Mo_isNode σ x1 = Fv
  unfold F_Mo_isNode at hF
  unfold S_Mo_isNode at hS
  refine g_iload_n C d_Mo_isNode_0 rfl ?_
  refine g_if_lt C 16 d_Mo_isNode_1 (by decide) (fun hc1 => ?_) (fun hc1 => ?_)
  · rw [if_pos hc1] at hF hS
    refine g_iconst (v := 0) C d_Mo_isNode_16 (by decide) ?_
    exact m_zret C hr hlocks (by decide) d_Mo_isNode_17 (by rw [← hF]; exact ⟨rfl, rfl⟩)
  · rw [if_neg hc1] at hF hS
    refine g_iload_n C d_Mo_isNode_4 rfl ?_
    refine g_aload_n C d_Mo_isNode_5 rfl ?_
    refine m_geti C hE 0 (by decide) (by decide) kf_Mo_146 d_Mo_isNode_6 ?_
    refine g_icmp_ge C 16 d_Mo_isNode_9 (by decide) (fun hc2 => ?_) (fun hc2 => ?_)
    · rw [if_pos hc2] at hF hS
      refine g_iconst (v := 0) C d_Mo_isNode_16 (by decide) ?_
      exact m_zret C hr hlocks (by decide) d_Mo_isNode_17 (by rw [← hF]; exact ⟨rfl, rfl⟩)
    · rw [if_neg hc2] at hF hS
      refine g_iconst (v := 1) C d_Mo_isNode_12 (by decide) ?_
      refine g_goto C 17 d_Mo_isNode_13 (by decide) ?_
      exact m_zret C hr hlocks (by decide) d_Mo_isNode_17 (by rw [← hF]; exact ⟨rfl, rfl⟩)
def F_Mo_isName (σ : mSt) (x0 : Int32) : Int32 × mSt := if x0 < 0 then ((0, σ)) else (if 10 ≤ x0 then ((0, σ)) else ((1, σ)))
def S_Mo_isName (σ : mSt) (x0 : Int32) : Prop := if x0 < 0 then (True) else (if 10 ≤ x0 then (True) else (True))
set_option maxRecDepth 100000 in
set_option maxHeartbeats 4000000 in
theorem mc_Mo_isName (l : Launch) (D : va_G) (cs : Nat → ClassId) (B : Nat) (dE : Nat × Nat) (mo : Nat) (ad : Nat → Nat) (σ : mSt) (x0 : Int32) (hS : S_Mo_isName σ x0) : mMet l y_Mo_isName (Cond.code y_Mo_isName c_Mo_isName 1 (some .boolean)) ({ frames := 0, cells := 0, slots := 0, locals := 0 } : Room) D cs B dE mo ad [.int x0] σ (fun r σ' => r = some (.int (F_Mo_isName σ x0).1) ∧ σ' = (F_Mo_isName σ x0).2) := by
  refine mMet.ofW (by decide) rfl (Nat.le_of_ble_eq_true rfl) (lv0 := [(0, .int x0)]) rfl ?_
  intro p e s m args below meth c M0 C hE hr hlocks
  generalize hF : F_Mo_isName σ x0 = Fv
  unfold F_Mo_isName at hF
  unfold S_Mo_isName at hS
  refine g_iload_n C d_Mo_isName_0 rfl ?_
  refine g_if_lt C 14 d_Mo_isName_1 (by decide) (fun hc1 => ?_) (fun hc1 => ?_)
  · rw [if_pos hc1] at hF hS
    refine g_iconst (v := 0) C d_Mo_isName_14 (by decide) ?_
    exact m_zret C hr hlocks (by decide) d_Mo_isName_15 (by rw [← hF]; exact ⟨rfl, rfl⟩)
  · rw [if_neg hc1] at hF hS
    refine g_iload_n C d_Mo_isName_4 rfl ?_
    refine g_bipush (v := 10) C d_Mo_isName_5 (by decide) ?_
    refine g_icmp_ge C 14 d_Mo_isName_7 (by decide) (fun hc2 => ?_) (fun hc2 => ?_)
    · rw [if_pos hc2] at hF hS
      refine g_iconst (v := 0) C d_Mo_isName_14 (by decide) ?_
      exact m_zret C hr hlocks (by decide) d_Mo_isName_15 (by rw [← hF]; exact ⟨rfl, rfl⟩)
    · rw [if_neg hc2] at hF hS
      refine g_iconst (v := 1) C d_Mo_isName_10 (by decide) ?_
      refine g_goto C 15 d_Mo_isName_11 (by decide) ?_
      exact m_zret C hr hlocks (by decide) d_Mo_isName_15 (by rw [← hF]; exact ⟨rfl, rfl⟩)
def F_Mo_counts_j40 (σ : mSt) (x1 : Int32) (x2 : Int32) : mSt := if (σ.2.2.1 13 x2.toNatClampNeg) < (σ.2.2.1 13 x1.toNatClampNeg) then (σ) else (mo_ai σ 13 x1.toNatClampNeg ((σ.2.2.1 13 x2.toNatClampNeg) + 1))
def S_Mo_counts_j40 (σ : mSt) (x1 : Int32) (x2 : Int32) : Prop := (vp_in x2 200) ∧ ((vp_in x1 200) ∧ (if (σ.2.2.1 13 x2.toNatClampNeg) < (σ.2.2.1 13 x1.toNatClampNeg) then (True) else ((vp_in x2 200) ∧ ((vp_in x1 200) ∧ (True)))))
set_option maxRecDepth 100000 in
set_option maxHeartbeats 4000000 in
theorem w_Mo_counts_j40 {p : Program} {l : Launch} {e : Env} {s : State} {m : MethodId} {args : Array Value} {below : List Frame} {meth : Method} {c : Code} {D : va_G} {cs : Nat → ClassId} {B : Nat} {dE : Nat × Nat} {mo : Nat} {ad : Nat → Nat} {M0 : gMem} (C : CallFix p m c c_Mo_counts 3 s args gT R_Mo) (hE : gEnv D gcl (gtys cs) gz B dE s) (hr : meth.sig.returnType = none) (hlocks : meth.locks = false) (σ : mSt) (x1 : Int32) (x2 : Int32) (Fv : mSt) (hS : S_Mo_counts_j40 σ x1 x2) (hF : F_Mo_counts_j40 σ x1 x2 = Fv) : GW p l e ({ frames := 0, cells := 0, slots := 0, locals := 0 } : Room) s m args below meth c 3 (gA B) (mQ below D cs B mo ad M0 (fun r σ' => r = none ∧ σ' = Fv) args s) (mo_P D B cs mo ad M0 σ) 0 0 40 [(0, .ref mo), (1, .int x1), (2, .int x2)] [] := by
  unfold F_Mo_counts_j40 at hF
  unfold S_Mo_counts_j40 at hS
  refine g_aload_n C d_Mo_counts_40 rfl ?_
  refine m_geta C hE 13 (by decide) (by decide) (by decide) kf_Mo_34 d_Mo_counts_41 ?_
  refine g_iload_n C d_Mo_counts_44 rfl ?_
  obtain ⟨hi8, hS⟩ := hS
  refine m_ald C hE 13 (by decide) (by decide) hi8 d_Mo_counts_45 ?_
  refine g_aload_n C d_Mo_counts_46 rfl ?_
  refine m_geta C hE 13 (by decide) (by decide) (by decide) kf_Mo_34 d_Mo_counts_47 ?_
  refine g_iload_n C d_Mo_counts_50 rfl ?_
  obtain ⟨hi9, hS⟩ := hS
  refine m_ald C hE 13 (by decide) (by decide) hi9 d_Mo_counts_51 ?_
  refine g_icmp_lt C 69 d_Mo_counts_52 (by decide) (fun hc10 => ?_) (fun hc10 => ?_)
  · rw [if_pos hc10] at hF hS
    exact m_vret C hr hlocks d_Mo_counts_69 (by rw [← hF]; exact ⟨rfl, rfl⟩)
  · rw [if_neg hc10] at hF hS
    refine g_aload_n C d_Mo_counts_55 rfl ?_
    refine m_geta C hE 13 (by decide) (by decide) (by decide) kf_Mo_34 d_Mo_counts_56 ?_
    refine g_iload_n C d_Mo_counts_59 rfl ?_
    refine g_aload_n C d_Mo_counts_60 rfl ?_
    refine m_geta C hE 13 (by decide) (by decide) (by decide) kf_Mo_34 d_Mo_counts_61 ?_
    refine g_iload_n C d_Mo_counts_64 rfl ?_
    obtain ⟨hi11, hS⟩ := hS
    refine m_ald C hE 13 (by decide) (by decide) hi11 d_Mo_counts_65 ?_
    refine g_iconst (v := 1) C d_Mo_counts_66 (by decide) ?_
    refine g_iadd C d_Mo_counts_67 ?_
    obtain ⟨hi12, hS⟩ := hS
    refine m_ast C hE 13 (by decide) (by decide) hi12 d_Mo_counts_68 ?_
    exact m_vret C hr hlocks d_Mo_counts_69 (by rw [← hF]; exact ⟨rfl, rfl⟩)
def F_Mo_counts (σ : mSt) (x1 : Int32) (x2 : Int32) : mSt := if x2 = (-1) then (σ) else (if ((mo_ai σ 12 x1.toNatClampNeg ((σ.2.2.1 12 x1.toNatClampNeg) + (σ.2.2.1 12 x2.toNatClampNeg))).2.2.1 12 x1.toNatClampNeg) ≤ 100000 then (F_Mo_counts_j40 (mo_ai σ 12 x1.toNatClampNeg ((σ.2.2.1 12 x1.toNatClampNeg) + (σ.2.2.1 12 x2.toNatClampNeg))) x1 x2) else (F_Mo_counts_j40 (mo_ai (mo_ai σ 12 x1.toNatClampNeg ((σ.2.2.1 12 x1.toNatClampNeg) + (σ.2.2.1 12 x2.toNatClampNeg))) 12 x1.toNatClampNeg 100000) x1 x2))
def S_Mo_counts (σ : mSt) (x1 : Int32) (x2 : Int32) : Prop := if x2 = (-1) then (True) else ((vp_in x1 200) ∧ ((vp_in x2 200) ∧ ((vp_in x1 200) ∧ ((vp_in x1 200) ∧ (if ((mo_ai σ 12 x1.toNatClampNeg ((σ.2.2.1 12 x1.toNatClampNeg) + (σ.2.2.1 12 x2.toNatClampNeg))).2.2.1 12 x1.toNatClampNeg) ≤ 100000 then (S_Mo_counts_j40 (mo_ai σ 12 x1.toNatClampNeg ((σ.2.2.1 12 x1.toNatClampNeg) + (σ.2.2.1 12 x2.toNatClampNeg))) x1 x2) else ((vp_in x1 200) ∧ (S_Mo_counts_j40 (mo_ai (mo_ai σ 12 x1.toNatClampNeg ((σ.2.2.1 12 x1.toNatClampNeg) + (σ.2.2.1 12 x2.toNatClampNeg))) 12 x1.toNatClampNeg 100000) x1 x2)))))))
set_option maxRecDepth 100000 in
set_option maxHeartbeats 4000000 in
theorem mc_Mo_counts (l : Launch) (D : va_G) (cs : Nat → ClassId) (B : Nat) (dE : Nat × Nat) (mo : Nat) (ad : Nat → Nat) (σ : mSt) (x1 : Int32) (x2 : Int32) (hS : S_Mo_counts σ x1 x2) : mMet l y_Mo_counts (Cond.code y_Mo_counts c_Mo_counts 3 none) ({ frames := 0, cells := 0, slots := 0, locals := 0 } : Room) D cs B dE mo ad [.ref mo, .int x1, .int x2] σ (fun r σ' => r = none ∧ σ' = F_Mo_counts σ x1 x2) := by
  refine mMet.ofW (by decide) rfl (Nat.le_of_ble_eq_true rfl) (lv0 := [(0, .ref mo), (1, .int x1), (2, .int x2)]) rfl ?_
  intro p e s m args below meth c M0 C hE hr hlocks
  generalize hF : F_Mo_counts σ x1 x2 = Fv
  unfold F_Mo_counts at hF
  unfold S_Mo_counts at hS
  refine g_iload_n C d_Mo_counts_0 rfl ?_
  refine g_iconst (v := (-1)) C d_Mo_counts_1 (by decide) ?_
  refine g_icmp_ne C 6 d_Mo_counts_2 (by decide) (fun hc1 => ?_) (fun hc1 => ?_)
  · rw [if_neg hc1] at hF hS
    refine g_aload_n C d_Mo_counts_6 rfl ?_
    refine m_geta C hE 12 (by decide) (by decide) (by decide) kf_Mo_31 d_Mo_counts_7 ?_
    refine g_iload_n C d_Mo_counts_10 rfl ?_
    refine g_dup2_11 C d_Mo_counts_11 rfl rfl ?_
    obtain ⟨hi2, hS⟩ := hS
    refine m_ald C hE 12 (by decide) (by decide) hi2 d_Mo_counts_12 ?_
    refine g_aload_n C d_Mo_counts_13 rfl ?_
    refine m_geta C hE 12 (by decide) (by decide) (by decide) kf_Mo_31 d_Mo_counts_14 ?_
    refine g_iload_n C d_Mo_counts_17 rfl ?_
    obtain ⟨hi3, hS⟩ := hS
    refine m_ald C hE 12 (by decide) (by decide) hi3 d_Mo_counts_18 ?_
    refine g_iadd C d_Mo_counts_19 ?_
    obtain ⟨hi4, hS⟩ := hS
    refine m_ast C hE 12 (by decide) (by decide) hi4 d_Mo_counts_20 ?_
    refine g_aload_n C d_Mo_counts_21 rfl ?_
    refine m_geta C hE 12 (by decide) (by decide) (by decide) kf_Mo_31 d_Mo_counts_22 ?_
    refine g_iload_n C d_Mo_counts_25 rfl ?_
    obtain ⟨hi5, hS⟩ := hS
    refine m_ald C hE 12 (by decide) (by decide) hi5 d_Mo_counts_26 ?_
    refine g_ldc C kk_Mo_209 d_Mo_counts_27 ?_
    refine g_icmp_le C 40 d_Mo_counts_29 (by decide) (fun hc6 => ?_) (fun hc6 => ?_)
    · rw [if_pos hc6] at hF hS
      refine GW.subl [0, 1, 2] rfl ?_
      exact w_Mo_counts_j40 C hE hr hlocks (mo_ai σ 12 x1.toNatClampNeg ((σ.2.2.1 12 x1.toNatClampNeg) + (σ.2.2.1 12 x2.toNatClampNeg))) x1 x2 Fv hS hF
    · rw [if_neg hc6] at hF hS
      refine g_aload_n C d_Mo_counts_32 rfl ?_
      refine m_geta C hE 12 (by decide) (by decide) (by decide) kf_Mo_31 d_Mo_counts_33 ?_
      refine g_iload_n C d_Mo_counts_36 rfl ?_
      refine g_ldc C kk_Mo_209 d_Mo_counts_37 ?_
      obtain ⟨hi7, hS⟩ := hS
      refine m_ast C hE 12 (by decide) (by decide) hi7 d_Mo_counts_39 ?_
      refine GW.subl [0, 1, 2] rfl ?_
      exact w_Mo_counts_j40 C hE hr hlocks (mo_ai (mo_ai σ 12 x1.toNatClampNeg ((σ.2.2.1 12 x1.toNatClampNeg) + (σ.2.2.1 12 x2.toNatClampNeg))) 12 x1.toNatClampNeg 100000) x1 x2 Fv hS hF
  · rw [if_pos hc1] at hF hS
    exact m_vret C hr hlocks d_Mo_counts_5 (by rw [← hF]; exact ⟨rfl, rfl⟩)
def F_Mo_add_j24 (σ : mSt) (x1 : Int32) (x3 : Int32) (x4 : Int32) (x5 : Int32) (z0 : Int32) : Int32 × mSt := if ((mo_si σ 4 z0).1 4) = 0 then (mbind (F_Mo_counts (mo_ai (mo_ai (mo_ai (mo_ai (mo_ai (mo_ai (mo_ai (mo_ai (mo_ai (mo_si (mo_si σ 4 z0) 0 (((mo_si σ 4 z0).1 0) + 1)) 5 ((mo_si σ 4 z0).1 0).toNatClampNeg x1) 9 ((mo_si σ 4 z0).1 0).toNatClampNeg x3) 10 ((mo_si σ 4 z0).1 0).toNatClampNeg x4) 11 ((mo_si σ 4 z0).1 0).toNatClampNeg x5) 6 ((mo_si σ 4 z0).1 0).toNatClampNeg 0) 7 ((mo_si σ 4 z0).1 0).toNatClampNeg 0) 8 ((mo_si σ 4 z0).1 0).toNatClampNeg 0) 12 ((mo_si σ 4 z0).1 0).toNatClampNeg 1) 13 ((mo_si σ 4 z0).1 0).toNatClampNeg 1) ((mo_si σ 4 z0).1 0) x3) (fun w13 => mbind (F_Mo_counts w13 ((mo_si σ 4 z0).1 0) x4) (fun w15 => mbind (F_Mo_counts w15 ((mo_si σ 4 z0).1 0) x5) (fun w17 => ((mo_si σ 4 z0).1 0, mo_ai w17 15 ((mo_si σ 4 z0).1 0).toNatClampNeg 0))))) else ((0, mo_si σ 4 z0))
def S_Mo_add_j24 (σ : mSt) (x1 : Int32) (x3 : Int32) (x4 : Int32) (x5 : Int32) (z0 : Int32) : Prop := if ((mo_si σ 4 z0).1 4) = 0 then ((vp_in ((mo_si σ 4 z0).1 0) 200) ∧ ((vp_in ((mo_si σ 4 z0).1 0) 200) ∧ ((vp_in ((mo_si σ 4 z0).1 0) 200) ∧ ((vp_in ((mo_si σ 4 z0).1 0) 200) ∧ ((vp_in ((mo_si σ 4 z0).1 0) 200) ∧ ((vp_in ((mo_si σ 4 z0).1 0) 200) ∧ ((vp_in ((mo_si σ 4 z0).1 0) 200) ∧ ((vp_in ((mo_si σ 4 z0).1 0) 200) ∧ ((vp_in ((mo_si σ 4 z0).1 0) 200) ∧ ((S_Mo_counts (mo_ai (mo_ai (mo_ai (mo_ai (mo_ai (mo_ai (mo_ai (mo_ai (mo_ai (mo_si (mo_si σ 4 z0) 0 (((mo_si σ 4 z0).1 0) + 1)) 5 ((mo_si σ 4 z0).1 0).toNatClampNeg x1) 9 ((mo_si σ 4 z0).1 0).toNatClampNeg x3) 10 ((mo_si σ 4 z0).1 0).toNatClampNeg x4) 11 ((mo_si σ 4 z0).1 0).toNatClampNeg x5) 6 ((mo_si σ 4 z0).1 0).toNatClampNeg 0) 7 ((mo_si σ 4 z0).1 0).toNatClampNeg 0) 8 ((mo_si σ 4 z0).1 0).toNatClampNeg 0) 12 ((mo_si σ 4 z0).1 0).toNatClampNeg 1) 13 ((mo_si σ 4 z0).1 0).toNatClampNeg 1) ((mo_si σ 4 z0).1 0) x3) ∧ (mbind (F_Mo_counts (mo_ai (mo_ai (mo_ai (mo_ai (mo_ai (mo_ai (mo_ai (mo_ai (mo_ai (mo_si (mo_si σ 4 z0) 0 (((mo_si σ 4 z0).1 0) + 1)) 5 ((mo_si σ 4 z0).1 0).toNatClampNeg x1) 9 ((mo_si σ 4 z0).1 0).toNatClampNeg x3) 10 ((mo_si σ 4 z0).1 0).toNatClampNeg x4) 11 ((mo_si σ 4 z0).1 0).toNatClampNeg x5) 6 ((mo_si σ 4 z0).1 0).toNatClampNeg 0) 7 ((mo_si σ 4 z0).1 0).toNatClampNeg 0) 8 ((mo_si σ 4 z0).1 0).toNatClampNeg 0) 12 ((mo_si σ 4 z0).1 0).toNatClampNeg 1) 13 ((mo_si σ 4 z0).1 0).toNatClampNeg 1) ((mo_si σ 4 z0).1 0) x3) (fun w13 => (S_Mo_counts w13 ((mo_si σ 4 z0).1 0) x4) ∧ (mbind (F_Mo_counts w13 ((mo_si σ 4 z0).1 0) x4) (fun w15 => (S_Mo_counts w15 ((mo_si σ 4 z0).1 0) x5) ∧ (mbind (F_Mo_counts w15 ((mo_si σ 4 z0).1 0) x5) (fun w17 => (vp_in ((mo_si σ 4 z0).1 0) 200) ∧ (True))))))))))))))))) else (True)
set_option maxRecDepth 100000 in
set_option maxHeartbeats 4000000 in
theorem w_Mo_add_j24 {p : Program} {l : Launch} {e : Env} {s : State} {m : MethodId} {args : Array Value} {below : List Frame} {meth : Method} {c : Code} {D : va_G} {cs : Nat → ClassId} {B : Nat} {dE : Nat × Nat} {mo : Nat} {ad : Nat → Nat} {M0 : gMem} (C : CallFix p m c c_Mo_add 7 s args gT R_Mo) (hE : gEnv D gcl (gtys cs) gz B dE s) (hr : meth.sig.returnType = (some .int)) (hlocks : meth.locks = false) (σ : mSt) (x1 : Int32) (x3 : Int32) (x4 : Int32) (x5 : Int32) (z0 : Int32) (Fv : Int32 × mSt) (hS : S_Mo_add_j24 σ x1 x3 x4 x5 z0) (hF : F_Mo_add_j24 σ x1 x3 x4 x5 z0 = Fv) : GW p l e ({ frames := 1, cells := 0, slots := 0, locals := 22 } : Room) s m args below meth c 7 (gA B) (mQ below D cs B mo ad M0 (fun r σ' => r = some (.int Fv.1) ∧ σ' = Fv.2) args s) (mo_P D B cs mo ad M0 σ) 0 0 24 [(0, .ref mo), (1, .int x1), (3, .int x3), (4, .int x4), (5, .int x5)] [.int z0, .ref mo] := by
  unfold F_Mo_add_j24 at hF
  unfold S_Mo_add_j24 at hS
  refine m_puti C hE 4 (by decide) (by decide) rfl rfl kf_Mo_142 d_Mo_add_24 ?_
  refine g_aload_n C d_Mo_add_27 rfl ?_
  refine m_geti C hE 4 (by decide) (by decide) kf_Mo_142 d_Mo_add_28 ?_
  refine g_if_eq C 36 d_Mo_add_31 (by decide) (fun hc3 => ?_) (fun hc3 => ?_)
  · rw [if_pos hc3] at hF hS
    refine g_aload_n C d_Mo_add_36 rfl ?_
    refine m_geti C hE 0 (by decide) (by decide) kf_Mo_146 d_Mo_add_37 ?_
    refine g_istore (lv' := [(6, .int ((mo_si σ 4 z0).1 0)), (0, .ref mo), (1, .int x1), (3, .int x3), (4, .int x4), (5, .int x5)]) C d_Mo_add_40 (by decide) rfl ?_
    refine g_aload_n C d_Mo_add_42 rfl ?_
    refine g_dup C d_Mo_add_43 rfl ?_
    refine m_geti C hE 0 (by decide) (by decide) kf_Mo_146 d_Mo_add_44 ?_
    refine g_iconst (v := 1) C d_Mo_add_47 (by decide) ?_
    refine g_iadd C d_Mo_add_48 ?_
    refine m_puti C hE 0 (by decide) (by decide) rfl rfl kf_Mo_146 d_Mo_add_49 ?_
    refine g_aload_n C d_Mo_add_52 rfl ?_
    refine m_geta C hE 5 (by decide) (by decide) (by decide) kf_Mo_7 d_Mo_add_53 ?_
    refine g_iload C d_Mo_add_56 rfl ?_
    refine g_iload_n C d_Mo_add_58 rfl ?_
    obtain ⟨hi4, hS⟩ := hS
    refine m_ast C hE 5 (by decide) (by decide) hi4 d_Mo_add_59 ?_
    refine g_aload_n C d_Mo_add_60 rfl ?_
    refine m_geta C hE 9 (by decide) (by decide) (by decide) kf_Mo_22 d_Mo_add_61 ?_
    refine g_iload C d_Mo_add_64 rfl ?_
    refine g_iload_n C d_Mo_add_66 rfl ?_
    obtain ⟨hi5, hS⟩ := hS
    refine m_ast C hE 9 (by decide) (by decide) hi5 d_Mo_add_67 ?_
    refine g_aload_n C d_Mo_add_68 rfl ?_
    refine m_geta C hE 10 (by decide) (by decide) (by decide) kf_Mo_25 d_Mo_add_69 ?_
    refine g_iload C d_Mo_add_72 rfl ?_
    refine g_iload C d_Mo_add_74 rfl ?_
    obtain ⟨hi6, hS⟩ := hS
    refine m_ast C hE 10 (by decide) (by decide) hi6 d_Mo_add_76 ?_
    refine g_aload_n C d_Mo_add_77 rfl ?_
    refine m_geta C hE 11 (by decide) (by decide) (by decide) kf_Mo_28 d_Mo_add_78 ?_
    refine g_iload C d_Mo_add_81 rfl ?_
    refine g_iload C d_Mo_add_83 rfl ?_
    obtain ⟨hi7, hS⟩ := hS
    refine m_ast C hE 11 (by decide) (by decide) hi7 d_Mo_add_85 ?_
    refine g_aload_n C d_Mo_add_86 rfl ?_
    refine m_geta C hE 6 (by decide) (by decide) (by decide) kf_Mo_13 d_Mo_add_87 ?_
    refine g_iload C d_Mo_add_90 rfl ?_
    refine g_iconst (v := 0) C d_Mo_add_92 (by decide) ?_
    obtain ⟨hi8, hS⟩ := hS
    refine m_ast C hE 6 (by decide) (by decide) hi8 d_Mo_add_93 ?_
    refine g_aload_n C d_Mo_add_94 rfl ?_
    refine m_geta C hE 7 (by decide) (by decide) (by decide) kf_Mo_16 d_Mo_add_95 ?_
    refine g_iload C d_Mo_add_98 rfl ?_
    refine g_iconst (v := 0) C d_Mo_add_100 (by decide) ?_
    obtain ⟨hi9, hS⟩ := hS
    refine m_ast C hE 7 (by decide) (by decide) hi9 d_Mo_add_101 ?_
    refine g_aload_n C d_Mo_add_102 rfl ?_
    refine m_geta C hE 8 (by decide) (by decide) (by decide) kf_Mo_19 d_Mo_add_103 ?_
    refine g_iload C d_Mo_add_106 rfl ?_
    refine g_iconst (v := 0) C d_Mo_add_108 (by decide) ?_
    obtain ⟨hi10, hS⟩ := hS
    refine m_ast C hE 8 (by decide) (by decide) hi10 d_Mo_add_109 ?_
    refine g_aload_n C d_Mo_add_110 rfl ?_
    refine m_geta C hE 12 (by decide) (by decide) (by decide) kf_Mo_31 d_Mo_add_111 ?_
    refine g_iload C d_Mo_add_114 rfl ?_
    refine g_iconst (v := 1) C d_Mo_add_116 (by decide) ?_
    obtain ⟨hi11, hS⟩ := hS
    refine m_ast C hE 12 (by decide) (by decide) hi11 d_Mo_add_117 ?_
    refine g_aload_n C d_Mo_add_118 rfl ?_
    refine m_geta C hE 13 (by decide) (by decide) (by decide) kf_Mo_34 d_Mo_add_119 ?_
    refine g_iload C d_Mo_add_122 rfl ?_
    refine g_iconst (v := 1) C d_Mo_add_124 (by decide) ?_
    obtain ⟨hi12, hS⟩ := hS
    refine m_ast C hE 13 (by decide) (by decide) hi12 d_Mo_add_125 ?_
    refine g_aload_n C d_Mo_add_126 rfl ?_
    refine g_iload C d_Mo_add_127 rfl ?_
    refine g_iload_n C d_Mo_add_129 rfl ?_
    obtain ⟨hs14, hS⟩ := hS
    refine m_callV (n := 2) (av := [.int ((mo_si σ 4 z0).1 0), .int x3]) (rest := []) C hE (mc_Mo_counts l D cs B dE mo ad _ _ _ hs14) km_Mo_205 kv_Mo_counts kl_Mo_counts kd_Mo_counts ki_Mo ⟨rfl, by decide, by decide, by decide⟩ rfl ⟨rfl, rfl⟩ (by decide) (by decide) d_Mo_add_130 (Nat.le_of_ble_eq_true rfl) _ rfl (fun v1 σ1 hv => ?_)
    obtain ⟨rfl, rfl⟩ := hv
    rw [mbind_eq] at hF hS
    generalize F_Mo_counts (mo_ai (mo_ai (mo_ai (mo_ai (mo_ai (mo_ai (mo_ai (mo_ai (mo_ai (mo_si (mo_si σ 4 z0) 0 (((mo_si σ 4 z0).1 0) + 1)) 5 ((mo_si σ 4 z0).1 0).toNatClampNeg x1) 9 ((mo_si σ 4 z0).1 0).toNatClampNeg x3) 10 ((mo_si σ 4 z0).1 0).toNatClampNeg x4) 11 ((mo_si σ 4 z0).1 0).toNatClampNeg x5) 6 ((mo_si σ 4 z0).1 0).toNatClampNeg 0) 7 ((mo_si σ 4 z0).1 0).toNatClampNeg 0) 8 ((mo_si σ 4 z0).1 0).toNatClampNeg 0) 12 ((mo_si σ 4 z0).1 0).toNatClampNeg 1) 13 ((mo_si σ 4 z0).1 0).toNatClampNeg 1) ((mo_si σ 4 z0).1 0) x3 = w13 at hF hS ⊢
    refine GW.eqs (st' := []) rfl ?_
    refine g_aload_n C d_Mo_add_133 rfl ?_
    refine g_iload C d_Mo_add_134 rfl ?_
    refine g_iload C d_Mo_add_136 rfl ?_
    obtain ⟨hs16, hS⟩ := hS
    refine m_callV (n := 2) (av := [.int ((mo_si σ 4 z0).1 0), .int x4]) (rest := []) C hE (mc_Mo_counts l D cs B dE mo ad _ _ _ hs16) km_Mo_205 kv_Mo_counts kl_Mo_counts kd_Mo_counts ki_Mo ⟨rfl, by decide, by decide, by decide⟩ rfl ⟨rfl, rfl⟩ (by decide) (by decide) d_Mo_add_138 (Nat.le_of_ble_eq_true rfl) _ rfl (fun v1 σ1 hv => ?_)
    obtain ⟨rfl, rfl⟩ := hv
    rw [mbind_eq] at hF hS
    generalize F_Mo_counts w13 ((mo_si σ 4 z0).1 0) x4 = w15 at hF hS ⊢
    refine GW.eqs (st' := []) rfl ?_
    refine g_aload_n C d_Mo_add_141 rfl ?_
    refine g_iload C d_Mo_add_142 rfl ?_
    refine g_iload C d_Mo_add_144 rfl ?_
    obtain ⟨hs18, hS⟩ := hS
    refine m_callV (n := 2) (av := [.int ((mo_si σ 4 z0).1 0), .int x5]) (rest := []) C hE (mc_Mo_counts l D cs B dE mo ad _ _ _ hs18) km_Mo_205 kv_Mo_counts kl_Mo_counts kd_Mo_counts ki_Mo ⟨rfl, by decide, by decide, by decide⟩ rfl ⟨rfl, rfl⟩ (by decide) (by decide) d_Mo_add_146 (Nat.le_of_ble_eq_true rfl) _ rfl (fun v1 σ1 hv => ?_)
    obtain ⟨rfl, rfl⟩ := hv
    rw [mbind_eq] at hF hS
    generalize F_Mo_counts w15 ((mo_si σ 4 z0).1 0) x5 = w17 at hF hS ⊢
    refine GW.eqs (st' := []) rfl ?_
    refine g_aload_n C d_Mo_add_149 rfl ?_
    refine m_geta C hE 15 (by decide) (by decide) (by decide) kf_Mo_40 d_Mo_add_150 ?_
    refine g_iload C d_Mo_add_153 rfl ?_
    refine g_iconst (v := 0) C d_Mo_add_155 (by decide) ?_
    obtain ⟨hi19, hS⟩ := hS
    refine m_ast C hE 15 (by decide) (by decide) hi19 d_Mo_add_156 ?_
    refine g_iload C d_Mo_add_157 rfl ?_
    exact m_iret C hr hlocks d_Mo_add_159 (by rw [← hF]; exact ⟨rfl, rfl⟩)
  · rw [if_neg hc3] at hF hS
    refine g_iconst (v := 0) C d_Mo_add_34 (by decide) ?_
    exact m_iret C hr hlocks d_Mo_add_35 (by rw [← hF]; exact ⟨rfl, rfl⟩)
def F_Mo_add (σ : mSt) (x1 : Int32) (x2 : Int32) (x3 : Int32) (x4 : Int32) (x5 : Int32) : Int32 × mSt := if x2 = 0 then (F_Mo_add_j24 σ x1 x3 x4 x5 1) else (if (σ.1 0) = 200 then (F_Mo_add_j24 σ x1 x3 x4 x5 2) else (F_Mo_add_j24 σ x1 x3 x4 x5 0))
def S_Mo_add (σ : mSt) (x1 : Int32) (x2 : Int32) (x3 : Int32) (x4 : Int32) (x5 : Int32) : Prop := if x2 = 0 then (S_Mo_add_j24 σ x1 x3 x4 x5 1) else (if (σ.1 0) = 200 then (S_Mo_add_j24 σ x1 x3 x4 x5 2) else (S_Mo_add_j24 σ x1 x3 x4 x5 0))
set_option maxRecDepth 100000 in
set_option maxHeartbeats 4000000 in
theorem mc_Mo_add (l : Launch) (D : va_G) (cs : Nat → ClassId) (B : Nat) (dE : Nat × Nat) (mo : Nat) (ad : Nat → Nat) (σ : mSt) (x1 : Int32) (x2 : Int32) (x3 : Int32) (x4 : Int32) (x5 : Int32) (hS : S_Mo_add σ x1 x2 x3 x4 x5) : mMet l y_Mo_add (Cond.code y_Mo_add c_Mo_add 7 (some .int)) ({ frames := 1, cells := 0, slots := 0, locals := 22 } : Room) D cs B dE mo ad [.ref mo, .int x1, .int x2, .int x3, .int x4, .int x5] σ (fun r σ' => r = some (.int (F_Mo_add σ x1 x2 x3 x4 x5).1) ∧ σ' = (F_Mo_add σ x1 x2 x3 x4 x5).2) := by
  refine mMet.ofW (by decide) rfl (Nat.le_of_ble_eq_true rfl) (lv0 := [(0, .ref mo), (1, .int x1), (2, .int x2), (3, .int x3), (4, .int x4), (5, .int x5)]) rfl ?_
  intro p e s m args below meth c M0 C hE hr hlocks
  generalize hF : F_Mo_add σ x1 x2 x3 x4 x5 = Fv
  unfold F_Mo_add at hF
  unfold S_Mo_add at hS
  refine g_aload_n C d_Mo_add_0 rfl ?_
  refine g_iload_n C d_Mo_add_1 rfl ?_
  refine g_if_ne C 9 d_Mo_add_2 (by decide) (fun hc1 => ?_) (fun hc1 => ?_)
  · rw [if_neg hc1] at hF hS
    refine g_aload_n C d_Mo_add_9 rfl ?_
    refine m_geti C hE 0 (by decide) (by decide) kf_Mo_146 d_Mo_add_10 ?_
    refine g_sipush (v := 200) C d_Mo_add_13 (by decide) ?_
    refine g_icmp_ne C 23 d_Mo_add_16 (by decide) (fun hc2 => ?_) (fun hc2 => ?_)
    · rw [if_neg hc2] at hF hS
      refine g_iconst (v := 0) C d_Mo_add_23 (by decide) ?_
      refine GW.subl [0, 1, 3, 4, 5] rfl ?_
      exact w_Mo_add_j24 C hE hr hlocks σ x1 x3 x4 x5 0 Fv hS hF
    · rw [if_pos hc2] at hF hS
      refine g_iconst (v := 2) C d_Mo_add_19 (by decide) ?_
      refine g_goto C 24 d_Mo_add_20 (by decide) ?_
      refine GW.subl [0, 1, 3, 4, 5] rfl ?_
      exact w_Mo_add_j24 C hE hr hlocks σ x1 x3 x4 x5 2 Fv hS hF
  · rw [if_pos hc1] at hF hS
    refine g_iconst (v := 1) C d_Mo_add_5 (by decide) ?_
    refine g_goto C 24 d_Mo_add_6 (by decide) ?_
    refine GW.subl [0, 1, 3, 4, 5] rfl ?_
    exact w_Mo_add_j24 C hE hr hlocks σ x1 x3 x4 x5 1 Fv hS hF
def F_Mo_atom_j40 (σ : mSt) (x1 : Int32) (x2 : Int32) (z0 : Int32) : Int32 × mSt := mbind (F_Mo_add σ x1 z0 (-1) (-1) (-1)) (fun w10 => if (w10.2.1 4) = 0 then ((w10.1, mo_ai w10.2 6 w10.1.toNatClampNeg x2)) else ((w10.1, w10.2)))
def S_Mo_atom_j40 (σ : mSt) (x1 : Int32) (x2 : Int32) (z0 : Int32) : Prop := (S_Mo_add σ x1 z0 (-1) (-1) (-1)) ∧ (mbind (F_Mo_add σ x1 z0 (-1) (-1) (-1)) (fun w10 => if (w10.2.1 4) = 0 then ((vp_in w10.1 200) ∧ (True)) else (True)))
set_option maxRecDepth 100000 in
set_option maxHeartbeats 4000000 in
theorem w_Mo_atom_j40 {p : Program} {l : Launch} {e : Env} {s : State} {m : MethodId} {args : Array Value} {below : List Frame} {meth : Method} {c : Code} {D : va_G} {cs : Nat → ClassId} {B : Nat} {dE : Nat × Nat} {mo : Nat} {ad : Nat → Nat} {M0 : gMem} (C : CallFix p m c c_Mo_atom 5 s args gT R_Mo) (hE : gEnv D gcl (gtys cs) gz B dE s) (hr : meth.sig.returnType = (some .int)) (hlocks : meth.locks = false) (σ : mSt) (x1 : Int32) (x2 : Int32) (z0 : Int32) (Fv : Int32 × mSt) (hS : S_Mo_atom_j40 σ x1 x2 z0) (hF : F_Mo_atom_j40 σ x1 x2 z0 = Fv) : GW p l e ({ frames := 2, cells := 0, slots := 0, locals := 48 } : Room) s m args below meth c 5 (gA B) (mQ below D cs B mo ad M0 (fun r σ' => r = some (.int Fv.1) ∧ σ' = Fv.2) args s) (mo_P D B cs mo ad M0 σ) 0 0 40 [(0, .ref mo), (1, .int x1), (2, .int x2)] [.int z0] := by
  unfold F_Mo_atom_j40 at hF
  unfold S_Mo_atom_j40 at hS
  refine g_istore_n (lv' := [(3, .int z0), (0, .ref mo), (1, .int x1), (2, .int x2)]) C d_Mo_atom_40 (by decide) rfl ?_
  refine g_aload_n C d_Mo_atom_41 rfl ?_
  refine g_iload_n C d_Mo_atom_42 rfl ?_
  refine g_iload_n C d_Mo_atom_43 rfl ?_
  refine g_iconst (v := (-1)) C d_Mo_atom_44 (by decide) ?_
  refine g_iconst (v := (-1)) C d_Mo_atom_45 (by decide) ?_
  refine g_iconst (v := (-1)) C d_Mo_atom_46 (by decide) ?_
  obtain ⟨hs11, hS⟩ := hS
  refine m_callV (n := 5) (av := [.int x1, .int z0, .int (-1), .int (-1), .int (-1)]) (rest := []) C hE (mc_Mo_add l D cs B dE mo ad _ _ _ _ _ _ hs11) km_Mo_213 kv_Mo_add kl_Mo_add kd_Mo_add ki_Mo ⟨rfl, by decide, by decide, by decide⟩ rfl ⟨rfl, rfl⟩ (by decide) (by decide) d_Mo_atom_47 (Nat.le_of_ble_eq_true rfl) _ rfl (fun v1 σ1 hv => ?_)
  obtain ⟨rfl, rfl⟩ := hv
  rw [mbind_eq] at hF hS
  generalize F_Mo_add σ x1 z0 (-1) (-1) (-1) = w10 at hF hS ⊢
  refine GW.eqs (st' := [.int w10.1]) rfl ?_
  refine g_istore (lv' := [(4, .int w10.1), (3, .int z0), (0, .ref mo), (1, .int x1), (2, .int x2)]) C d_Mo_atom_50 (by decide) rfl ?_
  refine g_aload_n C d_Mo_atom_52 rfl ?_
  refine m_geti C hE 4 (by decide) (by decide) kf_Mo_142 d_Mo_atom_53 ?_
  refine g_if_ne C 67 d_Mo_atom_56 (by decide) (fun hc12 => ?_) (fun hc12 => ?_)
  · rw [if_neg hc12] at hF hS
    refine g_iload C d_Mo_atom_67 rfl ?_
    exact m_iret C hr hlocks d_Mo_atom_69 (by rw [← hF]; exact ⟨rfl, rfl⟩)
  · rw [if_pos hc12] at hF hS
    refine g_aload_n C d_Mo_atom_59 rfl ?_
    refine m_geta C hE 6 (by decide) (by decide) (by decide) kf_Mo_13 d_Mo_atom_60 ?_
    refine g_iload C d_Mo_atom_63 rfl ?_
    refine g_iload_n C d_Mo_atom_65 rfl ?_
    obtain ⟨hi13, hS⟩ := hS
    refine m_ast C hE 6 (by decide) (by decide) hi13 d_Mo_atom_66 ?_
    refine g_iload C d_Mo_atom_67 rfl ?_
    exact m_iret C hr hlocks d_Mo_atom_69 (by rw [← hF]; exact ⟨rfl, rfl⟩)
def F_Mo_atom_j35 (σ : mSt) (x1 : Int32) (x2 : Int32) : Int32 × mSt := F_Mo_atom_j40 σ x1 x2 1
def S_Mo_atom_j35 (σ : mSt) (x1 : Int32) (x2 : Int32) : Prop := S_Mo_atom_j40 σ x1 x2 1
set_option maxRecDepth 100000 in
set_option maxHeartbeats 4000000 in
theorem w_Mo_atom_j35 {p : Program} {l : Launch} {e : Env} {s : State} {m : MethodId} {args : Array Value} {below : List Frame} {meth : Method} {c : Code} {D : va_G} {cs : Nat → ClassId} {B : Nat} {dE : Nat × Nat} {mo : Nat} {ad : Nat → Nat} {M0 : gMem} (C : CallFix p m c c_Mo_atom 5 s args gT R_Mo) (hE : gEnv D gcl (gtys cs) gz B dE s) (hr : meth.sig.returnType = (some .int)) (hlocks : meth.locks = false) (σ : mSt) (x1 : Int32) (x2 : Int32) (Fv : Int32 × mSt) (hS : S_Mo_atom_j35 σ x1 x2) (hF : F_Mo_atom_j35 σ x1 x2 = Fv) : GW p l e ({ frames := 2, cells := 0, slots := 0, locals := 48 } : Room) s m args below meth c 5 (gA B) (mQ below D cs B mo ad M0 (fun r σ' => r = some (.int Fv.1) ∧ σ' = Fv.2) args s) (mo_P D B cs mo ad M0 σ) 0 0 35 [(0, .ref mo), (1, .int x1), (2, .int x2)] [] := by
  unfold F_Mo_atom_j35 at hF
  unfold S_Mo_atom_j35 at hS
  refine g_iconst (v := 1) C d_Mo_atom_35 (by decide) ?_
  refine g_goto C 40 d_Mo_atom_36 (by decide) ?_
  refine GW.subl [0, 1, 2] rfl ?_
  exact w_Mo_atom_j40 C hE hr hlocks σ x1 x2 1 Fv hS hF
def F_Mo_atom_j39 (σ : mSt) (x1 : Int32) (x2 : Int32) : Int32 × mSt := F_Mo_atom_j40 σ x1 x2 0
def S_Mo_atom_j39 (σ : mSt) (x1 : Int32) (x2 : Int32) : Prop := S_Mo_atom_j40 σ x1 x2 0
set_option maxRecDepth 100000 in
set_option maxHeartbeats 4000000 in
theorem w_Mo_atom_j39 {p : Program} {l : Launch} {e : Env} {s : State} {m : MethodId} {args : Array Value} {below : List Frame} {meth : Method} {c : Code} {D : va_G} {cs : Nat → ClassId} {B : Nat} {dE : Nat × Nat} {mo : Nat} {ad : Nat → Nat} {M0 : gMem} (C : CallFix p m c c_Mo_atom 5 s args gT R_Mo) (hE : gEnv D gcl (gtys cs) gz B dE s) (hr : meth.sig.returnType = (some .int)) (hlocks : meth.locks = false) (σ : mSt) (x1 : Int32) (x2 : Int32) (Fv : Int32 × mSt) (hS : S_Mo_atom_j39 σ x1 x2) (hF : F_Mo_atom_j39 σ x1 x2 = Fv) : GW p l e ({ frames := 2, cells := 0, slots := 0, locals := 48 } : Room) s m args below meth c 5 (gA B) (mQ below D cs B mo ad M0 (fun r σ' => r = some (.int Fv.1) ∧ σ' = Fv.2) args s) (mo_P D B cs mo ad M0 σ) 0 0 39 [(0, .ref mo), (1, .int x1), (2, .int x2)] [] := by
  unfold F_Mo_atom_j39 at hF
  unfold S_Mo_atom_j39 at hS
  refine g_iconst (v := 0) C d_Mo_atom_39 (by decide) ?_
  refine GW.subl [0, 1, 2] rfl ?_
  exact w_Mo_atom_j40 C hE hr hlocks σ x1 x2 0 Fv hS hF
def F_Mo_atom_j23 (σ : mSt) (x1 : Int32) (x2 : Int32) : Int32 × mSt := if x1 = 3 then (mbind (F_Mo_isName σ x2) (fun w7 => if w7.1 = 0 then (F_Mo_atom_j39 w7.2 x1 x2) else (F_Mo_atom_j35 w7.2 x1 x2))) else (F_Mo_atom_j35 σ x1 x2)
def S_Mo_atom_j23 (σ : mSt) (x1 : Int32) (x2 : Int32) : Prop := if x1 = 3 then ((S_Mo_isName σ x2) ∧ (mbind (F_Mo_isName σ x2) (fun w7 => if w7.1 = 0 then (S_Mo_atom_j39 w7.2 x1 x2) else (S_Mo_atom_j35 w7.2 x1 x2)))) else (S_Mo_atom_j35 σ x1 x2)
set_option maxRecDepth 100000 in
set_option maxHeartbeats 4000000 in
theorem w_Mo_atom_j23 {p : Program} {l : Launch} {e : Env} {s : State} {m : MethodId} {args : Array Value} {below : List Frame} {meth : Method} {c : Code} {D : va_G} {cs : Nat → ClassId} {B : Nat} {dE : Nat × Nat} {mo : Nat} {ad : Nat → Nat} {M0 : gMem} (C : CallFix p m c c_Mo_atom 5 s args gT R_Mo) (hE : gEnv D gcl (gtys cs) gz B dE s) (hr : meth.sig.returnType = (some .int)) (hlocks : meth.locks = false) (σ : mSt) (x1 : Int32) (x2 : Int32) (Fv : Int32 × mSt) (hS : S_Mo_atom_j23 σ x1 x2) (hF : F_Mo_atom_j23 σ x1 x2 = Fv) : GW p l e ({ frames := 2, cells := 0, slots := 0, locals := 48 } : Room) s m args below meth c 5 (gA B) (mQ below D cs B mo ad M0 (fun r σ' => r = some (.int Fv.1) ∧ σ' = Fv.2) args s) (mo_P D B cs mo ad M0 σ) 0 0 23 [(0, .ref mo), (1, .int x1), (2, .int x2)] [] := by
  unfold F_Mo_atom_j23 at hF
  unfold S_Mo_atom_j23 at hS
  refine g_iload_n C d_Mo_atom_23 rfl ?_
  refine g_iconst (v := 3) C d_Mo_atom_24 (by decide) ?_
  refine g_icmp_ne C 35 d_Mo_atom_25 (by decide) (fun hc6 => ?_) (fun hc6 => ?_)
  · rw [if_neg hc6] at hF hS
    refine GW.subl [0, 1, 2] rfl ?_
    exact w_Mo_atom_j35 C hE hr hlocks σ x1 x2 Fv hS hF
  · rw [if_pos hc6] at hF hS
    refine g_iload_n C d_Mo_atom_28 rfl ?_
    obtain ⟨hs8, hS⟩ := hS
    refine m_callS (n := 1) (av := [.int x2]) (rest := []) C hE (mc_Mo_isName l D cs B dE mo ad _ _ hs8) km_Mo_210 ks_Mo_isName kd_Mo_isName ki_Mo ⟨rfl, by decide, by decide, by decide⟩ rfl ⟨rfl, rfl⟩ (by decide) (by decide) d_Mo_atom_29 (Nat.le_of_ble_eq_true rfl) _ rfl (fun v1 σ1 hv => ?_)
    obtain ⟨rfl, rfl⟩ := hv
    rw [mbind_eq] at hF hS
    generalize F_Mo_isName σ x2 = w7 at hF hS ⊢
    refine GW.eqs (st' := [.int w7.1]) rfl ?_
    refine g_if_eq C 39 d_Mo_atom_32 (by decide) (fun hc9 => ?_) (fun hc9 => ?_)
    · rw [if_pos hc9] at hF hS
      refine GW.subl [0, 1, 2] rfl ?_
      exact w_Mo_atom_j39 C hE hr hlocks w7.2 x1 x2 Fv hS hF
    · rw [if_neg hc9] at hF hS
      refine GW.subl [0, 1, 2] rfl ?_
      exact w_Mo_atom_j35 C hE hr hlocks w7.2 x1 x2 Fv hS hF
def F_Mo_atom (σ : mSt) (x1 : Int32) (x2 : Int32) : Int32 × mSt := if x1 < 0 then (F_Mo_atom_j39 σ x1 x2) else (if 3 < x1 then (F_Mo_atom_j39 σ x1 x2) else (if x1 = 1 then (if x2 = 0 then (F_Mo_atom_j23 σ x1 x2) else (if x2 = 1 then (F_Mo_atom_j23 σ x1 x2) else (F_Mo_atom_j39 σ x1 x2))) else (F_Mo_atom_j23 σ x1 x2)))
def S_Mo_atom (σ : mSt) (x1 : Int32) (x2 : Int32) : Prop := if x1 < 0 then (S_Mo_atom_j39 σ x1 x2) else (if 3 < x1 then (S_Mo_atom_j39 σ x1 x2) else (if x1 = 1 then (if x2 = 0 then (S_Mo_atom_j23 σ x1 x2) else (if x2 = 1 then (S_Mo_atom_j23 σ x1 x2) else (S_Mo_atom_j39 σ x1 x2))) else (S_Mo_atom_j23 σ x1 x2)))
set_option maxRecDepth 100000 in
set_option maxHeartbeats 4000000 in
theorem mc_Mo_atom (l : Launch) (D : va_G) (cs : Nat → ClassId) (B : Nat) (dE : Nat × Nat) (mo : Nat) (ad : Nat → Nat) (σ : mSt) (x1 : Int32) (x2 : Int32) (hS : S_Mo_atom σ x1 x2) : mMet l y_Mo_atom (Cond.code y_Mo_atom c_Mo_atom 5 (some .int)) ({ frames := 2, cells := 0, slots := 0, locals := 48 } : Room) D cs B dE mo ad [.ref mo, .int x1, .int x2] σ (fun r σ' => r = some (.int (F_Mo_atom σ x1 x2).1) ∧ σ' = (F_Mo_atom σ x1 x2).2) := by
  refine mMet.ofW (by decide) rfl (Nat.le_of_ble_eq_true rfl) (lv0 := [(0, .ref mo), (1, .int x1), (2, .int x2)]) rfl ?_
  intro p e s m args below meth c M0 C hE hr hlocks
  generalize hF : F_Mo_atom σ x1 x2 = Fv
  unfold F_Mo_atom at hF
  unfold S_Mo_atom at hS
  refine g_iload_n C d_Mo_atom_0 rfl ?_
  refine g_if_lt C 39 d_Mo_atom_1 (by decide) (fun hc1 => ?_) (fun hc1 => ?_)
  · rw [if_pos hc1] at hF hS
    refine GW.subl [0, 1, 2] rfl ?_
    exact w_Mo_atom_j39 C hE hr hlocks σ x1 x2 Fv hS hF
  · rw [if_neg hc1] at hF hS
    refine g_iload_n C d_Mo_atom_4 rfl ?_
    refine g_iconst (v := 3) C d_Mo_atom_5 (by decide) ?_
    refine g_icmp_gt C 39 d_Mo_atom_6 (by decide) (fun hc2 => ?_) (fun hc2 => ?_)
    · rw [if_pos hc2] at hF hS
      refine GW.subl [0, 1, 2] rfl ?_
      exact w_Mo_atom_j39 C hE hr hlocks σ x1 x2 Fv hS hF
    · rw [if_neg hc2] at hF hS
      refine g_iload_n C d_Mo_atom_9 rfl ?_
      refine g_iconst (v := 1) C d_Mo_atom_10 (by decide) ?_
      refine g_icmp_ne C 23 d_Mo_atom_11 (by decide) (fun hc3 => ?_) (fun hc3 => ?_)
      · rw [if_neg hc3] at hF hS
        refine GW.subl [0, 1, 2] rfl ?_
        exact w_Mo_atom_j23 C hE hr hlocks σ x1 x2 Fv hS hF
      · rw [if_pos hc3] at hF hS
        refine g_iload_n C d_Mo_atom_14 rfl ?_
        refine g_if_eq C 23 d_Mo_atom_15 (by decide) (fun hc4 => ?_) (fun hc4 => ?_)
        · rw [if_pos hc4] at hF hS
          refine GW.subl [0, 1, 2] rfl ?_
          exact w_Mo_atom_j23 C hE hr hlocks σ x1 x2 Fv hS hF
        · rw [if_neg hc4] at hF hS
          refine g_iload_n C d_Mo_atom_18 rfl ?_
          refine g_iconst (v := 1) C d_Mo_atom_19 (by decide) ?_
          refine g_icmp_ne C 39 d_Mo_atom_20 (by decide) (fun hc5 => ?_) (fun hc5 => ?_)
          · rw [if_neg hc5] at hF hS
            refine GW.subl [0, 1, 2] rfl ?_
            exact w_Mo_atom_j39 C hE hr hlocks σ x1 x2 Fv hS hF
          · rw [if_pos hc5] at hF hS
            refine GW.subl [0, 1, 2] rfl ?_
            exact w_Mo_atom_j23 C hE hr hlocks σ x1 x2 Fv hS hF
def F_Mo_let_j30 (σ : mSt) (x1 : Int32) (x2 : Int32) (x3 : Int32) (z0 : Int32) (z1 : Int32) : Int32 × mSt := mbind (F_Mo_add σ z1 z0 x2 x3 (-1)) (fun w10 => if (w10.2.1 4) = 0 then ((w10.1, mo_ai w10.2 6 w10.1.toNatClampNeg x1)) else ((w10.1, w10.2)))
def S_Mo_let_j30 (σ : mSt) (x1 : Int32) (x2 : Int32) (x3 : Int32) (z0 : Int32) (z1 : Int32) : Prop := (S_Mo_add σ z1 z0 x2 x3 (-1)) ∧ (mbind (F_Mo_add σ z1 z0 x2 x3 (-1)) (fun w10 => if (w10.2.1 4) = 0 then ((vp_in w10.1 200) ∧ (True)) else (True)))
set_option maxRecDepth 100000 in
set_option maxHeartbeats 4000000 in
theorem w_Mo_let_j30 {p : Program} {l : Launch} {e : Env} {s : State} {m : MethodId} {args : Array Value} {below : List Frame} {meth : Method} {c : Code} {D : va_G} {cs : Nat → ClassId} {B : Nat} {dE : Nat × Nat} {mo : Nat} {ad : Nat → Nat} {M0 : gMem} (C : CallFix p m c c_Mo_let 5 s args gT R_Mo) (hE : gEnv D gcl (gtys cs) gz B dE s) (hr : meth.sig.returnType = (some .int)) (hlocks : meth.locks = false) (σ : mSt) (x1 : Int32) (x2 : Int32) (x3 : Int32) (z0 : Int32) (z1 : Int32) (Fv : Int32 × mSt) (hS : S_Mo_let_j30 σ x1 x2 x3 z0 z1) (hF : F_Mo_let_j30 σ x1 x2 x3 z0 z1 = Fv) : GW p l e ({ frames := 2, cells := 0, slots := 0, locals := 48 } : Room) s m args below meth c 5 (gA B) (mQ below D cs B mo ad M0 (fun r σ' => r = some (.int Fv.1) ∧ σ' = Fv.2) args s) (mo_P D B cs mo ad M0 σ) 0 0 30 [(0, .ref mo), (1, .int x1), (2, .int x2), (3, .int x3)] [.int z0, .int z1, .ref mo] := by
  unfold F_Mo_let_j30 at hF
  unfold S_Mo_let_j30 at hS
  refine g_iload_n C d_Mo_let_30 rfl ?_
  refine g_iload_n C d_Mo_let_31 rfl ?_
  refine g_iconst (v := (-1)) C d_Mo_let_32 (by decide) ?_
  obtain ⟨hs11, hS⟩ := hS
  refine m_callV (n := 5) (av := [.int z1, .int z0, .int x2, .int x3, .int (-1)]) (rest := []) C hE (mc_Mo_add l D cs B dE mo ad _ _ _ _ _ _ hs11) km_Mo_213 kv_Mo_add kl_Mo_add kd_Mo_add ki_Mo ⟨rfl, by decide, by decide, by decide⟩ rfl ⟨rfl, rfl⟩ (by decide) (by decide) d_Mo_let_33 (Nat.le_of_ble_eq_true rfl) _ rfl (fun v1 σ1 hv => ?_)
  obtain ⟨rfl, rfl⟩ := hv
  rw [mbind_eq] at hF hS
  generalize F_Mo_add σ z1 z0 x2 x3 (-1) = w10 at hF hS ⊢
  refine GW.eqs (st' := [.int w10.1]) rfl ?_
  refine g_istore (lv' := [(4, .int w10.1), (0, .ref mo), (1, .int x1), (2, .int x2), (3, .int x3)]) C d_Mo_let_36 (by decide) rfl ?_
  refine g_aload_n C d_Mo_let_38 rfl ?_
  refine m_geti C hE 4 (by decide) (by decide) kf_Mo_142 d_Mo_let_39 ?_
  refine g_if_ne C 53 d_Mo_let_42 (by decide) (fun hc12 => ?_) (fun hc12 => ?_)
  · rw [if_neg hc12] at hF hS
    refine g_iload C d_Mo_let_53 rfl ?_
    exact m_iret C hr hlocks d_Mo_let_55 (by rw [← hF]; exact ⟨rfl, rfl⟩)
  · rw [if_pos hc12] at hF hS
    refine g_aload_n C d_Mo_let_45 rfl ?_
    refine m_geta C hE 6 (by decide) (by decide) (by decide) kf_Mo_13 d_Mo_let_46 ?_
    refine g_iload C d_Mo_let_49 rfl ?_
    refine g_iload_n C d_Mo_let_51 rfl ?_
    obtain ⟨hi13, hS⟩ := hS
    refine m_ast C hE 6 (by decide) (by decide) hi13 d_Mo_let_52 ?_
    refine g_iload C d_Mo_let_53 rfl ?_
    exact m_iret C hr hlocks d_Mo_let_55 (by rw [← hF]; exact ⟨rfl, rfl⟩)
def F_Mo_let_j29 (σ : mSt) (x1 : Int32) (x2 : Int32) (x3 : Int32) (z0 : Int32) : Int32 × mSt := F_Mo_let_j30 σ x1 x2 x3 0 z0
def S_Mo_let_j29 (σ : mSt) (x1 : Int32) (x2 : Int32) (x3 : Int32) (z0 : Int32) : Prop := S_Mo_let_j30 σ x1 x2 x3 0 z0
set_option maxRecDepth 100000 in
set_option maxHeartbeats 4000000 in
theorem w_Mo_let_j29 {p : Program} {l : Launch} {e : Env} {s : State} {m : MethodId} {args : Array Value} {below : List Frame} {meth : Method} {c : Code} {D : va_G} {cs : Nat → ClassId} {B : Nat} {dE : Nat × Nat} {mo : Nat} {ad : Nat → Nat} {M0 : gMem} (C : CallFix p m c c_Mo_let 5 s args gT R_Mo) (hE : gEnv D gcl (gtys cs) gz B dE s) (hr : meth.sig.returnType = (some .int)) (hlocks : meth.locks = false) (σ : mSt) (x1 : Int32) (x2 : Int32) (x3 : Int32) (z0 : Int32) (Fv : Int32 × mSt) (hS : S_Mo_let_j29 σ x1 x2 x3 z0) (hF : F_Mo_let_j29 σ x1 x2 x3 z0 = Fv) : GW p l e ({ frames := 2, cells := 0, slots := 0, locals := 48 } : Room) s m args below meth c 5 (gA B) (mQ below D cs B mo ad M0 (fun r σ' => r = some (.int Fv.1) ∧ σ' = Fv.2) args s) (mo_P D B cs mo ad M0 σ) 0 0 29 [(0, .ref mo), (1, .int x1), (2, .int x2), (3, .int x3)] [.int z0, .ref mo] := by
  unfold F_Mo_let_j29 at hF
  unfold S_Mo_let_j29 at hS
  refine g_iconst (v := 0) C d_Mo_let_29 (by decide) ?_
  refine GW.subl [0, 1, 2, 3] rfl ?_
  exact w_Mo_let_j30 C hE hr hlocks σ x1 x2 x3 0 z0 Fv hS hF
def F_Mo_let (σ : mSt) (x1 : Int32) (x2 : Int32) (x3 : Int32) : Int32 × mSt := mbind (F_Mo_isName σ x1) (fun w1 => if w1.1 = 0 then (F_Mo_let_j29 w1.2 x1 x2 x3 4) else (mbind (F_Mo_isNode w1.2 x2) (fun w4 => if w4.1 = 0 then (F_Mo_let_j29 w4.2 x1 x2 x3 4) else (mbind (F_Mo_isNode w4.2 x3) (fun w7 => if w7.1 = 0 then (F_Mo_let_j29 w7.2 x1 x2 x3 4) else (F_Mo_let_j30 w7.2 x1 x2 x3 1 4))))))
def S_Mo_let (σ : mSt) (x1 : Int32) (x2 : Int32) (x3 : Int32) : Prop := (S_Mo_isName σ x1) ∧ (mbind (F_Mo_isName σ x1) (fun w1 => if w1.1 = 0 then (S_Mo_let_j29 w1.2 x1 x2 x3 4) else ((S_Mo_isNode w1.2 x2) ∧ (mbind (F_Mo_isNode w1.2 x2) (fun w4 => if w4.1 = 0 then (S_Mo_let_j29 w4.2 x1 x2 x3 4) else ((S_Mo_isNode w4.2 x3) ∧ (mbind (F_Mo_isNode w4.2 x3) (fun w7 => if w7.1 = 0 then (S_Mo_let_j29 w7.2 x1 x2 x3 4) else (S_Mo_let_j30 w7.2 x1 x2 x3 1 4)))))))))
set_option maxRecDepth 100000 in
set_option maxHeartbeats 4000000 in
theorem mc_Mo_let (l : Launch) (D : va_G) (cs : Nat → ClassId) (B : Nat) (dE : Nat × Nat) (mo : Nat) (ad : Nat → Nat) (σ : mSt) (x1 : Int32) (x2 : Int32) (x3 : Int32) (hS : S_Mo_let σ x1 x2 x3) : mMet l y_Mo_let (Cond.code y_Mo_let c_Mo_let 5 (some .int)) ({ frames := 2, cells := 0, slots := 0, locals := 48 } : Room) D cs B dE mo ad [.ref mo, .int x1, .int x2, .int x3] σ (fun r σ' => r = some (.int (F_Mo_let σ x1 x2 x3).1) ∧ σ' = (F_Mo_let σ x1 x2 x3).2) := by
  refine mMet.ofW (by decide) rfl (Nat.le_of_ble_eq_true rfl) (lv0 := [(0, .ref mo), (1, .int x1), (2, .int x2), (3, .int x3)]) rfl ?_
  intro p e s m args below meth c M0 C hE hr hlocks
  generalize hF : F_Mo_let σ x1 x2 x3 = Fv
  unfold F_Mo_let at hF
  unfold S_Mo_let at hS
  refine g_aload_n C d_Mo_let_0 rfl ?_
  refine g_iconst (v := 4) C d_Mo_let_1 (by decide) ?_
  refine g_iload_n C d_Mo_let_2 rfl ?_
  obtain ⟨hs2, hS⟩ := hS
  refine m_callS (n := 1) (av := [.int x1]) (rest := [.int 4, .ref mo]) C hE (mc_Mo_isName l D cs B dE mo ad _ _ hs2) km_Mo_210 ks_Mo_isName kd_Mo_isName ki_Mo ⟨rfl, by decide, by decide, by decide⟩ rfl ⟨rfl, rfl⟩ (by decide) (by decide) d_Mo_let_3 (Nat.le_of_ble_eq_true rfl) _ rfl (fun v1 σ1 hv => ?_)
  obtain ⟨rfl, rfl⟩ := hv
  rw [mbind_eq] at hF hS
  generalize F_Mo_isName σ x1 = w1 at hF hS ⊢
  refine GW.eqs (st' := [.int w1.1, .int 4, .ref mo]) rfl ?_
  refine g_if_eq C 29 d_Mo_let_6 (by decide) (fun hc3 => ?_) (fun hc3 => ?_)
  · rw [if_pos hc3] at hF hS
    refine GW.subl [0, 1, 2, 3] rfl ?_
    exact w_Mo_let_j29 C hE hr hlocks w1.2 x1 x2 x3 4 Fv hS hF
  · rw [if_neg hc3] at hF hS
    refine g_aload_n C d_Mo_let_9 rfl ?_
    refine g_iload_n C d_Mo_let_10 rfl ?_
    obtain ⟨hs5, hS⟩ := hS
    refine m_callV (n := 1) (av := [.int x2]) (rest := [.int 4, .ref mo]) C hE (mc_Mo_isNode l D cs B dE mo ad _ _ hs5) km_Mo_217 kv_Mo_isNode kl_Mo_isNode kd_Mo_isNode ki_Mo ⟨rfl, by decide, by decide, by decide⟩ rfl ⟨rfl, rfl⟩ (by decide) (by decide) d_Mo_let_11 (Nat.le_of_ble_eq_true rfl) _ rfl (fun v1 σ1 hv => ?_)
    obtain ⟨rfl, rfl⟩ := hv
    rw [mbind_eq] at hF hS
    generalize F_Mo_isNode w1.2 x2 = w4 at hF hS ⊢
    refine GW.eqs (st' := [.int w4.1, .int 4, .ref mo]) rfl ?_
    refine g_if_eq C 29 d_Mo_let_14 (by decide) (fun hc6 => ?_) (fun hc6 => ?_)
    · rw [if_pos hc6] at hF hS
      refine GW.subl [0, 1, 2, 3] rfl ?_
      exact w_Mo_let_j29 C hE hr hlocks w4.2 x1 x2 x3 4 Fv hS hF
    · rw [if_neg hc6] at hF hS
      refine g_aload_n C d_Mo_let_17 rfl ?_
      refine g_iload_n C d_Mo_let_18 rfl ?_
      obtain ⟨hs8, hS⟩ := hS
      refine m_callV (n := 1) (av := [.int x3]) (rest := [.int 4, .ref mo]) C hE (mc_Mo_isNode l D cs B dE mo ad _ _ hs8) km_Mo_217 kv_Mo_isNode kl_Mo_isNode kd_Mo_isNode ki_Mo ⟨rfl, by decide, by decide, by decide⟩ rfl ⟨rfl, rfl⟩ (by decide) (by decide) d_Mo_let_19 (Nat.le_of_ble_eq_true rfl) _ rfl (fun v1 σ1 hv => ?_)
      obtain ⟨rfl, rfl⟩ := hv
      rw [mbind_eq] at hF hS
      generalize F_Mo_isNode w4.2 x3 = w7 at hF hS ⊢
      refine GW.eqs (st' := [.int w7.1, .int 4, .ref mo]) rfl ?_
      refine g_if_eq C 29 d_Mo_let_22 (by decide) (fun hc9 => ?_) (fun hc9 => ?_)
      · rw [if_pos hc9] at hF hS
        refine GW.subl [0, 1, 2, 3] rfl ?_
        exact w_Mo_let_j29 C hE hr hlocks w7.2 x1 x2 x3 4 Fv hS hF
      · rw [if_neg hc9] at hF hS
        refine g_iconst (v := 1) C d_Mo_let_25 (by decide) ?_
        refine g_goto C 30 d_Mo_let_26 (by decide) ?_
        refine GW.subl [0, 1, 2, 3] rfl ?_
        exact w_Mo_let_j30 C hE hr hlocks w7.2 x1 x2 x3 1 4 Fv hS hF
def F_Mo_rec_j52 (σ : mSt) (x1 : Int32) (x2 : Int32) (x3 : Int32) (x4 : Int32) (x5 : Int32) (z0 : Int32) (z1 : Int32) : Int32 × mSt := mbind (F_Mo_add σ z1 z0 x4 x5 (-1)) (fun w15 => if (w15.2.1 4) = 0 then ((w15.1, mo_ai (mo_ai (mo_ai w15.2 6 w15.1.toNatClampNeg x1) 7 w15.1.toNatClampNeg x2) 8 w15.1.toNatClampNeg x3)) else ((0, w15.2)))
def S_Mo_rec_j52 (σ : mSt) (x1 : Int32) (x2 : Int32) (x3 : Int32) (x4 : Int32) (x5 : Int32) (z0 : Int32) (z1 : Int32) : Prop := (S_Mo_add σ z1 z0 x4 x5 (-1)) ∧ (mbind (F_Mo_add σ z1 z0 x4 x5 (-1)) (fun w15 => if (w15.2.1 4) = 0 then ((vp_in w15.1 200) ∧ ((vp_in w15.1 200) ∧ ((vp_in w15.1 200) ∧ (True)))) else (True)))
set_option maxRecDepth 100000 in
set_option maxHeartbeats 4000000 in
theorem w_Mo_rec_j52 {p : Program} {l : Launch} {e : Env} {s : State} {m : MethodId} {args : Array Value} {below : List Frame} {meth : Method} {c : Code} {D : va_G} {cs : Nat → ClassId} {B : Nat} {dE : Nat × Nat} {mo : Nat} {ad : Nat → Nat} {M0 : gMem} (C : CallFix p m c c_Mo_rec 7 s args gT R_Mo) (hE : gEnv D gcl (gtys cs) gz B dE s) (hr : meth.sig.returnType = (some .int)) (hlocks : meth.locks = false) (σ : mSt) (x1 : Int32) (x2 : Int32) (x3 : Int32) (x4 : Int32) (x5 : Int32) (z0 : Int32) (z1 : Int32) (Fv : Int32 × mSt) (hS : S_Mo_rec_j52 σ x1 x2 x3 x4 x5 z0 z1) (hF : F_Mo_rec_j52 σ x1 x2 x3 x4 x5 z0 z1 = Fv) : GW p l e ({ frames := 2, cells := 0, slots := 0, locals := 48 } : Room) s m args below meth c 7 (gA B) (mQ below D cs B mo ad M0 (fun r σ' => r = some (.int Fv.1) ∧ σ' = Fv.2) args s) (mo_P D B cs mo ad M0 σ) 0 0 52 [(0, .ref mo), (1, .int x1), (2, .int x2), (3, .int x3), (4, .int x4), (5, .int x5)] [.int z0, .int z1, .ref mo] := by
  unfold F_Mo_rec_j52 at hF
  unfold S_Mo_rec_j52 at hS
  refine g_iload C d_Mo_rec_52 rfl ?_
  refine g_iload C d_Mo_rec_54 rfl ?_
  refine g_iconst (v := (-1)) C d_Mo_rec_56 (by decide) ?_
  obtain ⟨hs16, hS⟩ := hS
  refine m_callV (n := 5) (av := [.int z1, .int z0, .int x4, .int x5, .int (-1)]) (rest := []) C hE (mc_Mo_add l D cs B dE mo ad _ _ _ _ _ _ hs16) km_Mo_213 kv_Mo_add kl_Mo_add kd_Mo_add ki_Mo ⟨rfl, by decide, by decide, by decide⟩ rfl ⟨rfl, rfl⟩ (by decide) (by decide) d_Mo_rec_57 (Nat.le_of_ble_eq_true rfl) _ rfl (fun v1 σ1 hv => ?_)
  obtain ⟨rfl, rfl⟩ := hv
  rw [mbind_eq] at hF hS
  generalize F_Mo_add σ z1 z0 x4 x5 (-1) = w15 at hF hS ⊢
  refine GW.eqs (st' := [.int w15.1]) rfl ?_
  refine g_istore (lv' := [(6, .int w15.1), (0, .ref mo), (1, .int x1), (2, .int x2), (3, .int x3), (4, .int x4), (5, .int x5)]) C d_Mo_rec_60 (by decide) rfl ?_
  refine g_aload_n C d_Mo_rec_62 rfl ?_
  refine m_geti C hE 4 (by decide) (by decide) kf_Mo_142 d_Mo_rec_63 ?_
  refine g_if_eq C 71 d_Mo_rec_66 (by decide) (fun hc17 => ?_) (fun hc17 => ?_)
  · rw [if_pos hc17] at hF hS
    refine g_aload_n C d_Mo_rec_71 rfl ?_
    refine m_geta C hE 6 (by decide) (by decide) (by decide) kf_Mo_13 d_Mo_rec_72 ?_
    refine g_iload C d_Mo_rec_75 rfl ?_
    refine g_iload_n C d_Mo_rec_77 rfl ?_
    obtain ⟨hi18, hS⟩ := hS
    refine m_ast C hE 6 (by decide) (by decide) hi18 d_Mo_rec_78 ?_
    refine g_aload_n C d_Mo_rec_79 rfl ?_
    refine m_geta C hE 7 (by decide) (by decide) (by decide) kf_Mo_16 d_Mo_rec_80 ?_
    refine g_iload C d_Mo_rec_83 rfl ?_
    refine g_iload_n C d_Mo_rec_85 rfl ?_
    obtain ⟨hi19, hS⟩ := hS
    refine m_ast C hE 7 (by decide) (by decide) hi19 d_Mo_rec_86 ?_
    refine g_aload_n C d_Mo_rec_87 rfl ?_
    refine m_geta C hE 8 (by decide) (by decide) (by decide) kf_Mo_19 d_Mo_rec_88 ?_
    refine g_iload C d_Mo_rec_91 rfl ?_
    refine g_iload_n C d_Mo_rec_93 rfl ?_
    obtain ⟨hi20, hS⟩ := hS
    refine m_ast C hE 8 (by decide) (by decide) hi20 d_Mo_rec_94 ?_
    refine g_iload C d_Mo_rec_95 rfl ?_
    exact m_iret C hr hlocks d_Mo_rec_97 (by rw [← hF]; exact ⟨rfl, rfl⟩)
  · rw [if_neg hc17] at hF hS
    refine g_iconst (v := 0) C d_Mo_rec_69 (by decide) ?_
    exact m_iret C hr hlocks d_Mo_rec_70 (by rw [← hF]; exact ⟨rfl, rfl⟩)
def F_Mo_rec_j51 (σ : mSt) (x1 : Int32) (x2 : Int32) (x3 : Int32) (x4 : Int32) (x5 : Int32) (z0 : Int32) : Int32 × mSt := F_Mo_rec_j52 σ x1 x2 x3 x4 x5 0 z0
def S_Mo_rec_j51 (σ : mSt) (x1 : Int32) (x2 : Int32) (x3 : Int32) (x4 : Int32) (x5 : Int32) (z0 : Int32) : Prop := S_Mo_rec_j52 σ x1 x2 x3 x4 x5 0 z0
set_option maxRecDepth 100000 in
set_option maxHeartbeats 4000000 in
theorem w_Mo_rec_j51 {p : Program} {l : Launch} {e : Env} {s : State} {m : MethodId} {args : Array Value} {below : List Frame} {meth : Method} {c : Code} {D : va_G} {cs : Nat → ClassId} {B : Nat} {dE : Nat × Nat} {mo : Nat} {ad : Nat → Nat} {M0 : gMem} (C : CallFix p m c c_Mo_rec 7 s args gT R_Mo) (hE : gEnv D gcl (gtys cs) gz B dE s) (hr : meth.sig.returnType = (some .int)) (hlocks : meth.locks = false) (σ : mSt) (x1 : Int32) (x2 : Int32) (x3 : Int32) (x4 : Int32) (x5 : Int32) (z0 : Int32) (Fv : Int32 × mSt) (hS : S_Mo_rec_j51 σ x1 x2 x3 x4 x5 z0) (hF : F_Mo_rec_j51 σ x1 x2 x3 x4 x5 z0 = Fv) : GW p l e ({ frames := 2, cells := 0, slots := 0, locals := 48 } : Room) s m args below meth c 7 (gA B) (mQ below D cs B mo ad M0 (fun r σ' => r = some (.int Fv.1) ∧ σ' = Fv.2) args s) (mo_P D B cs mo ad M0 σ) 0 0 51 [(0, .ref mo), (1, .int x1), (2, .int x2), (3, .int x3), (4, .int x4), (5, .int x5)] [.int z0, .ref mo] := by
  unfold F_Mo_rec_j51 at hF
  unfold S_Mo_rec_j51 at hS
  refine g_iconst (v := 0) C d_Mo_rec_51 (by decide) ?_
  refine GW.subl [0, 1, 2, 3, 4, 5] rfl ?_
  exact w_Mo_rec_j52 C hE hr hlocks σ x1 x2 x3 x4 x5 0 z0 Fv hS hF
def F_Mo_rec (σ : mSt) (x1 : Int32) (x2 : Int32) (x3 : Int32) (x4 : Int32) (x5 : Int32) : Int32 × mSt := mbind (F_Mo_isName σ x1) (fun w1 => if w1.1 = 0 then (F_Mo_rec_j51 w1.2 x1 x2 x3 x4 x5 5) else (mbind (F_Mo_isName w1.2 x2) (fun w4 => if w4.1 = 0 then (F_Mo_rec_j51 w4.2 x1 x2 x3 x4 x5 5) else (if x3 < 3 then (F_Mo_rec_j51 w4.2 x1 x2 x3 x4 x5 5) else (if (w4.2.1 3) ≤ x3 then (F_Mo_rec_j51 w4.2 x1 x2 x3 x4 x5 5) else (mbind (F_Mo_isNode w4.2 x4) (fun w9 => if w9.1 = 0 then (F_Mo_rec_j51 w9.2 x1 x2 x3 x4 x5 5) else (mbind (F_Mo_isNode w9.2 x5) (fun w12 => if w12.1 = 0 then (F_Mo_rec_j51 w12.2 x1 x2 x3 x4 x5 5) else (F_Mo_rec_j52 w12.2 x1 x2 x3 x4 x5 1 5))))))))))
def S_Mo_rec (σ : mSt) (x1 : Int32) (x2 : Int32) (x3 : Int32) (x4 : Int32) (x5 : Int32) : Prop := (S_Mo_isName σ x1) ∧ (mbind (F_Mo_isName σ x1) (fun w1 => if w1.1 = 0 then (S_Mo_rec_j51 w1.2 x1 x2 x3 x4 x5 5) else ((S_Mo_isName w1.2 x2) ∧ (mbind (F_Mo_isName w1.2 x2) (fun w4 => if w4.1 = 0 then (S_Mo_rec_j51 w4.2 x1 x2 x3 x4 x5 5) else (if x3 < 3 then (S_Mo_rec_j51 w4.2 x1 x2 x3 x4 x5 5) else (if (w4.2.1 3) ≤ x3 then (S_Mo_rec_j51 w4.2 x1 x2 x3 x4 x5 5) else ((S_Mo_isNode w4.2 x4) ∧ (mbind (F_Mo_isNode w4.2 x4) (fun w9 => if w9.1 = 0 then (S_Mo_rec_j51 w9.2 x1 x2 x3 x4 x5 5) else ((S_Mo_isNode w9.2 x5) ∧ (mbind (F_Mo_isNode w9.2 x5) (fun w12 => if w12.1 = 0 then (S_Mo_rec_j51 w12.2 x1 x2 x3 x4 x5 5) else (S_Mo_rec_j52 w12.2 x1 x2 x3 x4 x5 1 5))))))))))))))
set_option maxRecDepth 100000 in
set_option maxHeartbeats 4000000 in
theorem mc_Mo_rec (l : Launch) (D : va_G) (cs : Nat → ClassId) (B : Nat) (dE : Nat × Nat) (mo : Nat) (ad : Nat → Nat) (σ : mSt) (x1 : Int32) (x2 : Int32) (x3 : Int32) (x4 : Int32) (x5 : Int32) (hS : S_Mo_rec σ x1 x2 x3 x4 x5) : mMet l y_Mo_rec (Cond.code y_Mo_rec c_Mo_rec 7 (some .int)) ({ frames := 2, cells := 0, slots := 0, locals := 48 } : Room) D cs B dE mo ad [.ref mo, .int x1, .int x2, .int x3, .int x4, .int x5] σ (fun r σ' => r = some (.int (F_Mo_rec σ x1 x2 x3 x4 x5).1) ∧ σ' = (F_Mo_rec σ x1 x2 x3 x4 x5).2) := by
  refine mMet.ofW (by decide) rfl (Nat.le_of_ble_eq_true rfl) (lv0 := [(0, .ref mo), (1, .int x1), (2, .int x2), (3, .int x3), (4, .int x4), (5, .int x5)]) rfl ?_
  intro p e s m args below meth c M0 C hE hr hlocks
  generalize hF : F_Mo_rec σ x1 x2 x3 x4 x5 = Fv
  unfold F_Mo_rec at hF
  unfold S_Mo_rec at hS
  refine g_aload_n C d_Mo_rec_0 rfl ?_
  refine g_iconst (v := 5) C d_Mo_rec_1 (by decide) ?_
  refine g_iload_n C d_Mo_rec_2 rfl ?_
  obtain ⟨hs2, hS⟩ := hS
  refine m_callS (n := 1) (av := [.int x1]) (rest := [.int 5, .ref mo]) C hE (mc_Mo_isName l D cs B dE mo ad _ _ hs2) km_Mo_210 ks_Mo_isName kd_Mo_isName ki_Mo ⟨rfl, by decide, by decide, by decide⟩ rfl ⟨rfl, rfl⟩ (by decide) (by decide) d_Mo_rec_3 (Nat.le_of_ble_eq_true rfl) _ rfl (fun v1 σ1 hv => ?_)
  obtain ⟨rfl, rfl⟩ := hv
  rw [mbind_eq] at hF hS
  generalize F_Mo_isName σ x1 = w1 at hF hS ⊢
  refine GW.eqs (st' := [.int w1.1, .int 5, .ref mo]) rfl ?_
  refine g_if_eq C 51 d_Mo_rec_6 (by decide) (fun hc3 => ?_) (fun hc3 => ?_)
  · rw [if_pos hc3] at hF hS
    refine GW.subl [0, 1, 2, 3, 4, 5] rfl ?_
    exact w_Mo_rec_j51 C hE hr hlocks w1.2 x1 x2 x3 x4 x5 5 Fv hS hF
  · rw [if_neg hc3] at hF hS
    refine g_iload_n C d_Mo_rec_9 rfl ?_
    obtain ⟨hs5, hS⟩ := hS
    refine m_callS (n := 1) (av := [.int x2]) (rest := [.int 5, .ref mo]) C hE (mc_Mo_isName l D cs B dE mo ad _ _ hs5) km_Mo_210 ks_Mo_isName kd_Mo_isName ki_Mo ⟨rfl, by decide, by decide, by decide⟩ rfl ⟨rfl, rfl⟩ (by decide) (by decide) d_Mo_rec_10 (Nat.le_of_ble_eq_true rfl) _ rfl (fun v1 σ1 hv => ?_)
    obtain ⟨rfl, rfl⟩ := hv
    rw [mbind_eq] at hF hS
    generalize F_Mo_isName w1.2 x2 = w4 at hF hS ⊢
    refine GW.eqs (st' := [.int w4.1, .int 5, .ref mo]) rfl ?_
    refine g_if_eq C 51 d_Mo_rec_13 (by decide) (fun hc6 => ?_) (fun hc6 => ?_)
    · rw [if_pos hc6] at hF hS
      refine GW.subl [0, 1, 2, 3, 4, 5] rfl ?_
      exact w_Mo_rec_j51 C hE hr hlocks w4.2 x1 x2 x3 x4 x5 5 Fv hS hF
    · rw [if_neg hc6] at hF hS
      refine g_iload_n C d_Mo_rec_16 rfl ?_
      refine g_iconst (v := 3) C d_Mo_rec_17 (by decide) ?_
      refine g_icmp_lt C 51 d_Mo_rec_18 (by decide) (fun hc7 => ?_) (fun hc7 => ?_)
      · rw [if_pos hc7] at hF hS
        refine GW.subl [0, 1, 2, 3, 4, 5] rfl ?_
        exact w_Mo_rec_j51 C hE hr hlocks w4.2 x1 x2 x3 x4 x5 5 Fv hS hF
      · rw [if_neg hc7] at hF hS
        refine g_iload_n C d_Mo_rec_21 rfl ?_
        refine g_aload_n C d_Mo_rec_22 rfl ?_
        refine m_geti C hE 3 (by decide) (by decide) kf_Mo_155 d_Mo_rec_23 ?_
        refine g_icmp_ge C 51 d_Mo_rec_26 (by decide) (fun hc8 => ?_) (fun hc8 => ?_)
        · rw [if_pos hc8] at hF hS
          refine GW.subl [0, 1, 2, 3, 4, 5] rfl ?_
          exact w_Mo_rec_j51 C hE hr hlocks w4.2 x1 x2 x3 x4 x5 5 Fv hS hF
        · rw [if_neg hc8] at hF hS
          refine g_aload_n C d_Mo_rec_29 rfl ?_
          refine g_iload C d_Mo_rec_30 rfl ?_
          obtain ⟨hs10, hS⟩ := hS
          refine m_callV (n := 1) (av := [.int x4]) (rest := [.int 5, .ref mo]) C hE (mc_Mo_isNode l D cs B dE mo ad _ _ hs10) km_Mo_217 kv_Mo_isNode kl_Mo_isNode kd_Mo_isNode ki_Mo ⟨rfl, by decide, by decide, by decide⟩ rfl ⟨rfl, rfl⟩ (by decide) (by decide) d_Mo_rec_32 (Nat.le_of_ble_eq_true rfl) _ rfl (fun v1 σ1 hv => ?_)
          obtain ⟨rfl, rfl⟩ := hv
          rw [mbind_eq] at hF hS
          generalize F_Mo_isNode w4.2 x4 = w9 at hF hS ⊢
          refine GW.eqs (st' := [.int w9.1, .int 5, .ref mo]) rfl ?_
          refine g_if_eq C 51 d_Mo_rec_35 (by decide) (fun hc11 => ?_) (fun hc11 => ?_)
          · rw [if_pos hc11] at hF hS
            refine GW.subl [0, 1, 2, 3, 4, 5] rfl ?_
            exact w_Mo_rec_j51 C hE hr hlocks w9.2 x1 x2 x3 x4 x5 5 Fv hS hF
          · rw [if_neg hc11] at hF hS
            refine g_aload_n C d_Mo_rec_38 rfl ?_
            refine g_iload C d_Mo_rec_39 rfl ?_
            obtain ⟨hs13, hS⟩ := hS
            refine m_callV (n := 1) (av := [.int x5]) (rest := [.int 5, .ref mo]) C hE (mc_Mo_isNode l D cs B dE mo ad _ _ hs13) km_Mo_217 kv_Mo_isNode kl_Mo_isNode kd_Mo_isNode ki_Mo ⟨rfl, by decide, by decide, by decide⟩ rfl ⟨rfl, rfl⟩ (by decide) (by decide) d_Mo_rec_41 (Nat.le_of_ble_eq_true rfl) _ rfl (fun v1 σ1 hv => ?_)
            obtain ⟨rfl, rfl⟩ := hv
            rw [mbind_eq] at hF hS
            generalize F_Mo_isNode w9.2 x5 = w12 at hF hS ⊢
            refine GW.eqs (st' := [.int w12.1, .int 5, .ref mo]) rfl ?_
            refine g_if_eq C 51 d_Mo_rec_44 (by decide) (fun hc14 => ?_) (fun hc14 => ?_)
            · rw [if_pos hc14] at hF hS
              refine GW.subl [0, 1, 2, 3, 4, 5] rfl ?_
              exact w_Mo_rec_j51 C hE hr hlocks w12.2 x1 x2 x3 x4 x5 5 Fv hS hF
            · rw [if_neg hc14] at hF hS
              refine g_iconst (v := 1) C d_Mo_rec_47 (by decide) ?_
              refine g_goto C 52 d_Mo_rec_48 (by decide) ?_
              refine GW.subl [0, 1, 2, 3, 4, 5] rfl ?_
              exact w_Mo_rec_j52 C hE hr hlocks w12.2 x1 x2 x3 x4 x5 1 5 Fv hS hF
