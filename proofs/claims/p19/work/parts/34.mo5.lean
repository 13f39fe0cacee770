/-! the reference's methods as functions over its state: by program (wip/tools/decomp.py) -/
def F_Mo_goesBehind (n : Nat) (σ : mSt) (x1 : Int32) (x2 : Int32) : mSt := if (σ.2.2.1 5 x2.toNatClampNeg) = 9 then (mbind (F_Mo_reckoned σ (σ.2.2.1 6 x2.toNatClampNeg) ((σ.2.2.2 42 x1.toNatClampNeg).toInt32) σ.2.1.toInt32) (fun w26 => mbind (F_Mo_give w26.2 w26.1.toInt64) (fun w28 => mo_si w28 44 ((w28.1 44) - 1)))) else (mbind (F_Mo_seeAgain n σ x1) (fun w3 => if ((mo_si w3 44 ((w3.1 44) - 1)).2.2.1 5 x2.toNatClampNeg) = 6 then (if (lg_cmp ((mo_si w3 44 ((w3.1 44) - 1)).2.1) 0) = 0 then (mbind (F_Mo_work (mo_si w3 44 ((w3.1 44) - 1)) ((mo_si w3 44 ((w3.1 44) - 1)).2.2.1 11 x2.toNatClampNeg)) (fun w19 => w19)) else (mbind (F_Mo_work (mo_si w3 44 ((w3.1 44) - 1)) ((mo_si w3 44 ((w3.1 44) - 1)).2.2.1 10 x2.toNatClampNeg)) (fun w22 => w22))) else (if ((mo_al (mo_si w3 44 ((w3.1 44) - 1)) 53 ((mo_si w3 44 ((w3.1 44) - 1)).2.2.1 6 x2.toNatClampNeg).toNatClampNeg ((mo_si w3 44 ((w3.1 44) - 1)).2.1)).2.2.1 5 x2.toNatClampNeg) = 8 then (mbind (F_Mo_workMarked (mo_al (mo_si w3 44 ((w3.1 44) - 1)) 53 ((mo_si w3 44 ((w3.1 44) - 1)).2.2.1 6 x2.toNatClampNeg).toNatClampNeg ((mo_si w3 44 ((w3.1 44) - 1)).2.1)) ((mo_al (mo_si w3 44 ((w3.1 44) - 1)) 53 ((mo_si w3 44 ((w3.1 44) - 1)).2.2.1 6 x2.toNatClampNeg).toNatClampNeg ((mo_si w3 44 ((w3.1 44) - 1)).2.1)).2.2.1 10 x2.toNatClampNeg)) (fun w15 => w15)) else (mbind (F_Mo_work (mo_al (mo_si w3 44 ((w3.1 44) - 1)) 53 ((mo_si w3 44 ((w3.1 44) - 1)).2.2.1 6 x2.toNatClampNeg).toNatClampNeg ((mo_si w3 44 ((w3.1 44) - 1)).2.1)) ((mo_al (mo_si w3 44 ((w3.1 44) - 1)) 53 ((mo_si w3 44 ((w3.1 44) - 1)).2.2.1 6 x2.toNatClampNeg).toNatClampNeg ((mo_si w3 44 ((w3.1 44) - 1)).2.1)).2.2.1 10 x2.toNatClampNeg)) (fun w12 => w12)))))
def S_Mo_goesBehind (n : Nat) (σ : mSt) (x1 : Int32) (x2 : Int32) : Prop := (vp_in x2 200) ∧ (if (σ.2.2.1 5 x2.toNatClampNeg) = 9 then ((vp_in x2 200) ∧ ((vp_in x1 17000) ∧ ((S_Mo_reckoned σ (σ.2.2.1 6 x2.toNatClampNeg) ((σ.2.2.2 42 x1.toNatClampNeg).toInt32) σ.2.1.toInt32) ∧ (mbind (F_Mo_reckoned σ (σ.2.2.1 6 x2.toNatClampNeg) ((σ.2.2.2 42 x1.toNatClampNeg).toInt32) σ.2.1.toInt32) (fun w26 => (S_Mo_give w26.2 w26.1.toInt64) ∧ (mbind (F_Mo_give w26.2 w26.1.toInt64) (fun w28 => True))))))) else ((S_Mo_seeAgain n σ x1) ∧ (mbind (F_Mo_seeAgain n σ x1) (fun w3 => (vp_in x2 200) ∧ (if ((mo_si w3 44 ((w3.1 44) - 1)).2.2.1 5 x2.toNatClampNeg) = 6 then (if (lg_cmp ((mo_si w3 44 ((w3.1 44) - 1)).2.1) 0) = 0 then ((vp_in x2 200) ∧ ((S_Mo_work (mo_si w3 44 ((w3.1 44) - 1)) ((mo_si w3 44 ((w3.1 44) - 1)).2.2.1 11 x2.toNatClampNeg)) ∧ (mbind (F_Mo_work (mo_si w3 44 ((w3.1 44) - 1)) ((mo_si w3 44 ((w3.1 44) - 1)).2.2.1 11 x2.toNatClampNeg)) (fun w19 => True)))) else ((vp_in x2 200) ∧ ((S_Mo_work (mo_si w3 44 ((w3.1 44) - 1)) ((mo_si w3 44 ((w3.1 44) - 1)).2.2.1 10 x2.toNatClampNeg)) ∧ (mbind (F_Mo_work (mo_si w3 44 ((w3.1 44) - 1)) ((mo_si w3 44 ((w3.1 44) - 1)).2.2.1 10 x2.toNatClampNeg)) (fun w22 => True))))) else ((vp_in x2 200) ∧ ((vp_in ((mo_si w3 44 ((w3.1 44) - 1)).2.2.1 6 x2.toNatClampNeg) 10) ∧ ((vp_in x2 200) ∧ (if ((mo_al (mo_si w3 44 ((w3.1 44) - 1)) 53 ((mo_si w3 44 ((w3.1 44) - 1)).2.2.1 6 x2.toNatClampNeg).toNatClampNeg ((mo_si w3 44 ((w3.1 44) - 1)).2.1)).2.2.1 5 x2.toNatClampNeg) = 8 then ((vp_in x2 200) ∧ ((S_Mo_workMarked (mo_al (mo_si w3 44 ((w3.1 44) - 1)) 53 ((mo_si w3 44 ((w3.1 44) - 1)).2.2.1 6 x2.toNatClampNeg).toNatClampNeg ((mo_si w3 44 ((w3.1 44) - 1)).2.1)) ((mo_al (mo_si w3 44 ((w3.1 44) - 1)) 53 ((mo_si w3 44 ((w3.1 44) - 1)).2.2.1 6 x2.toNatClampNeg).toNatClampNeg ((mo_si w3 44 ((w3.1 44) - 1)).2.1)).2.2.1 10 x2.toNatClampNeg)) ∧ (mbind (F_Mo_workMarked (mo_al (mo_si w3 44 ((w3.1 44) - 1)) 53 ((mo_si w3 44 ((w3.1 44) - 1)).2.2.1 6 x2.toNatClampNeg).toNatClampNeg ((mo_si w3 44 ((w3.1 44) - 1)).2.1)) ((mo_al (mo_si w3 44 ((w3.1 44) - 1)) 53 ((mo_si w3 44 ((w3.1 44) - 1)).2.2.1 6 x2.toNatClampNeg).toNatClampNeg ((mo_si w3 44 ((w3.1 44) - 1)).2.1)).2.2.1 10 x2.toNatClampNeg)) (fun w15 => True)))) else ((vp_in x2 200) ∧ ((S_Mo_work (mo_al (mo_si w3 44 ((w3.1 44) - 1)) 53 ((mo_si w3 44 ((w3.1 44) - 1)).2.2.1 6 x2.toNatClampNeg).toNatClampNeg ((mo_si w3 44 ((w3.1 44) - 1)).2.1)) ((mo_al (mo_si w3 44 ((w3.1 44) - 1)) 53 ((mo_si w3 44 ((w3.1 44) - 1)).2.2.1 6 x2.toNatClampNeg).toNatClampNeg ((mo_si w3 44 ((w3.1 44) - 1)).2.1)).2.2.1 10 x2.toNatClampNeg)) ∧ (mbind (F_Mo_work (mo_al (mo_si w3 44 ((w3.1 44) - 1)) 53 ((mo_si w3 44 ((w3.1 44) - 1)).2.2.1 6 x2.toNatClampNeg).toNatClampNeg ((mo_si w3 44 ((w3.1 44) - 1)).2.1)) ((mo_al (mo_si w3 44 ((w3.1 44) - 1)) 53 ((mo_si w3 44 ((w3.1 44) - 1)).2.2.1 6 x2.toNatClampNeg).toNatClampNeg ((mo_si w3 44 ((w3.1 44) - 1)).2.1)).2.2.1 10 x2.toNatClampNeg)) (fun w12 => True)))))))))))))
set_option maxRecDepth 100000 in
set_option maxHeartbeats 4000000 in
theorem mc_Mo_goesBehind (l : Launch) (D : va_G) (cs : Nat → ClassId) (B : Nat) (dE : Nat × Nat) (mo : Nat) (ad : Nat → Nat) (n : Nat) (σ : mSt) (x1 : Int32) (x2 : Int32) (hS : S_Mo_goesBehind n σ x1 x2) : mMet l y_Mo_goesBehind (Cond.code y_Mo_goesBehind c_Mo_goesBehind 3 none) ({ frames := 2, cells := 0, slots := 0, locals := 42 } : Room) D cs B dE mo ad [.ref mo, .int x1, .int x2] σ (fun r σ' => r = none ∧ σ' = F_Mo_goesBehind n σ x1 x2) := by
  refine mMet.ofW (by decide) rfl (Nat.le_of_ble_eq_true rfl) (lv0 := [(0, .ref mo), (1, .int x1), (2, .int x2)]) rfl ?_
  intro p e s m args below meth c M0 C hE hr hlocks
  generalize hF : F_Mo_goesBehind n σ x1 x2 = Fv
  unfold F_Mo_goesBehind at hF
  unfold S_Mo_goesBehind at hS
  refine g_aload_n C d_Mo_goesBehind_0 rfl ?_
  refine m_geta C hE 5 (by decide) (by decide) (by decide) kf_Mo_7 d_Mo_goesBehind_1 ?_
  refine g_iload_n C d_Mo_goesBehind_4 rfl ?_
  obtain ⟨hi1, hS⟩ := hS
  refine m_ald C hE 5 (by decide) (by decide) hi1 d_Mo_goesBehind_5 ?_
  refine g_bipush (v := 9) C d_Mo_goesBehind_6 (by decide) ?_
  refine g_icmp_ne C 48 d_Mo_goesBehind_8 (by decide) (fun hc2 => ?_) (fun hc2 => ?_)
  · rw [if_neg hc2] at hF hS
    refine g_aload_n C d_Mo_goesBehind_48 rfl ?_
    refine g_iload_n C d_Mo_goesBehind_49 rfl ?_
    obtain ⟨hs4, hS⟩ := hS
    refine m_callV (n := 1) (av := [.int x1]) (rest := []) C hE (mc_Mo_seeAgain l D cs B dE mo ad n _ _ hs4) km_Mo_326 kv_Mo_seeAgain kl_Mo_seeAgain kd_Mo_seeAgain ki_Mo ⟨rfl, by decide, by decide, by decide⟩ rfl ⟨rfl, rfl⟩ (by decide) (by decide) d_Mo_goesBehind_50 (Nat.le_of_ble_eq_true rfl) _ rfl (fun v1 σ1 hv => ?_)
    obtain ⟨rfl, rfl⟩ := hv
    rw [mbind_eq] at hF hS
    generalize F_Mo_seeAgain n σ x1 = w3 at hF hS ⊢
    refine GW.eqs (st' := []) rfl ?_
    refine g_aload_n C d_Mo_goesBehind_53 rfl ?_
    refine g_dup C d_Mo_goesBehind_54 rfl ?_
    refine m_geti C hE 44 (by decide) (by decide) kf_Mo_283 d_Mo_goesBehind_55 ?_
    refine g_iconst (v := 1) C d_Mo_goesBehind_58 (by decide) ?_
    refine g_isub C d_Mo_goesBehind_59 ?_
    refine m_puti C hE 44 (by decide) (by decide) rfl rfl kf_Mo_283 d_Mo_goesBehind_60 ?_
    refine g_aload_n C d_Mo_goesBehind_63 rfl ?_
    refine m_geta C hE 5 (by decide) (by decide) (by decide) kf_Mo_7 d_Mo_goesBehind_64 ?_
    refine g_iload_n C d_Mo_goesBehind_67 rfl ?_
    obtain ⟨hi5, hS⟩ := hS
    refine m_ald C hE 5 (by decide) (by decide) hi5 d_Mo_goesBehind_68 ?_
    refine g_bipush (v := 6) C d_Mo_goesBehind_69 (by decide) ?_
    refine g_icmp_ne C 105 d_Mo_goesBehind_71 (by decide) (fun hc6 => ?_) (fun hc6 => ?_)
    · rw [if_neg hc6] at hF hS
      refine g_aload_n C d_Mo_goesBehind_105 rfl ?_
      refine m_geta C hE 53 (by decide) (by decide) (by decide) kf_Mo_104 d_Mo_goesBehind_106 ?_
      refine g_aload_n C d_Mo_goesBehind_109 rfl ?_
      refine m_geta C hE 6 (by decide) (by decide) (by decide) kf_Mo_13 d_Mo_goesBehind_110 ?_
      refine g_iload_n C d_Mo_goesBehind_113 rfl ?_
      obtain ⟨hi7, hS⟩ := hS
      refine m_ald C hE 6 (by decide) (by decide) hi7 d_Mo_goesBehind_114 ?_
      refine g_aload_n C d_Mo_goesBehind_115 rfl ?_
      refine m_getl C hE kf_Mo_186 d_Mo_goesBehind_116 ?_
      obtain ⟨hi8, hS⟩ := hS
      refine m_last C hE 53 (by decide) (by decide) hi8 d_Mo_goesBehind_119 ?_
      refine g_aload_n C d_Mo_goesBehind_120 rfl ?_
      refine m_geta C hE 5 (by decide) (by decide) (by decide) kf_Mo_7 d_Mo_goesBehind_121 ?_
      refine g_iload_n C d_Mo_goesBehind_124 rfl ?_
      obtain ⟨hi9, hS⟩ := hS
      refine m_ald C hE 5 (by decide) (by decide) hi9 d_Mo_goesBehind_125 ?_
      refine g_bipush (v := 8) C d_Mo_goesBehind_126 (by decide) ?_
      refine g_icmp_ne C 144 d_Mo_goesBehind_128 (by decide) (fun hc10 => ?_) (fun hc10 => ?_)
      · rw [if_neg hc10] at hF hS
        refine g_aload_n C d_Mo_goesBehind_144 rfl ?_
        refine g_aload_n C d_Mo_goesBehind_145 rfl ?_
        refine m_geta C hE 10 (by decide) (by decide) (by decide) kf_Mo_25 d_Mo_goesBehind_146 ?_
        refine g_iload_n C d_Mo_goesBehind_149 rfl ?_
        obtain ⟨hi11, hS⟩ := hS
        refine m_ald C hE 10 (by decide) (by decide) hi11 d_Mo_goesBehind_150 ?_
        obtain ⟨hs13, hS⟩ := hS
        refine m_callV (n := 1) (av := [.int ((mo_al (mo_si w3 44 ((w3.1 44) - 1)) 53 ((mo_si w3 44 ((w3.1 44) - 1)).2.2.1 6 x2.toNatClampNeg).toNatClampNeg ((mo_si w3 44 ((w3.1 44) - 1)).2.1)).2.2.1 10 x2.toNatClampNeg)]) (rest := []) C hE (mc_Mo_work l D cs B dE mo ad _ _ hs13) km_Mo_308 kv_Mo_work kl_Mo_work kd_Mo_work ki_Mo ⟨rfl, by decide, by decide, by decide⟩ rfl ⟨rfl, rfl⟩ (by decide) (by decide) d_Mo_goesBehind_151 (Nat.le_of_ble_eq_true rfl) _ rfl (fun v1 σ1 hv => ?_)
        obtain ⟨rfl, rfl⟩ := hv
        rw [mbind_eq] at hF hS
        generalize F_Mo_work (mo_al (mo_si w3 44 ((w3.1 44) - 1)) 53 ((mo_si w3 44 ((w3.1 44) - 1)).2.2.1 6 x2.toNatClampNeg).toNatClampNeg ((mo_si w3 44 ((w3.1 44) - 1)).2.1)) ((mo_al (mo_si w3 44 ((w3.1 44) - 1)) 53 ((mo_si w3 44 ((w3.1 44) - 1)).2.2.1 6 x2.toNatClampNeg).toNatClampNeg ((mo_si w3 44 ((w3.1 44) - 1)).2.1)).2.2.1 10 x2.toNatClampNeg) = w12 at hF hS ⊢
        refine GW.eqs (st' := []) rfl ?_
        exact m_vret C hr hlocks d_Mo_goesBehind_154 (by rw [← hF]; exact ⟨rfl, rfl⟩)
      · rw [if_pos hc10] at hF hS
        refine g_aload_n C d_Mo_goesBehind_131 rfl ?_
        refine g_aload_n C d_Mo_goesBehind_132 rfl ?_
        refine m_geta C hE 10 (by decide) (by decide) (by decide) kf_Mo_25 d_Mo_goesBehind_133 ?_
        refine g_iload_n C d_Mo_goesBehind_136 rfl ?_
        obtain ⟨hi14, hS⟩ := hS
        refine m_ald C hE 10 (by decide) (by decide) hi14 d_Mo_goesBehind_137 ?_
        obtain ⟨hs16, hS⟩ := hS
        refine m_callV (n := 1) (av := [.int ((mo_al (mo_si w3 44 ((w3.1 44) - 1)) 53 ((mo_si w3 44 ((w3.1 44) - 1)).2.2.1 6 x2.toNatClampNeg).toNatClampNeg ((mo_si w3 44 ((w3.1 44) - 1)).2.1)).2.2.1 10 x2.toNatClampNeg)]) (rest := []) C hE (mc_Mo_workMarked l D cs B dE mo ad _ _ hs16) km_Mo_314 kv_Mo_workMarked kl_Mo_workMarked kd_Mo_workMarked ki_Mo ⟨rfl, by decide, by decide, by decide⟩ rfl ⟨rfl, rfl⟩ (by decide) (by decide) d_Mo_goesBehind_138 (Nat.le_of_ble_eq_true rfl) _ rfl (fun v1 σ1 hv => ?_)
        obtain ⟨rfl, rfl⟩ := hv
        rw [mbind_eq] at hF hS
        generalize F_Mo_workMarked (mo_al (mo_si w3 44 ((w3.1 44) - 1)) 53 ((mo_si w3 44 ((w3.1 44) - 1)).2.2.1 6 x2.toNatClampNeg).toNatClampNeg ((mo_si w3 44 ((w3.1 44) - 1)).2.1)) ((mo_al (mo_si w3 44 ((w3.1 44) - 1)) 53 ((mo_si w3 44 ((w3.1 44) - 1)).2.2.1 6 x2.toNatClampNeg).toNatClampNeg ((mo_si w3 44 ((w3.1 44) - 1)).2.1)).2.2.1 10 x2.toNatClampNeg) = w15 at hF hS ⊢
        refine GW.eqs (st' := []) rfl ?_
        refine g_goto C 154 d_Mo_goesBehind_141 (by decide) ?_
        exact m_vret C hr hlocks d_Mo_goesBehind_154 (by rw [← hF]; exact ⟨rfl, rfl⟩)
    · rw [if_pos hc6] at hF hS
      refine g_aload_n C d_Mo_goesBehind_74 rfl ?_
      refine g_aload_n C d_Mo_goesBehind_75 rfl ?_
      refine m_getl C hE kf_Mo_186 d_Mo_goesBehind_76 ?_
      refine g_lconst (v := 0) C d_Mo_goesBehind_79 (by decide) ?_
      refine g_lcmp C d_Mo_goesBehind_80 ?_
      refine g_if_eq C 93 d_Mo_goesBehind_81 (by decide) (fun hc17 => ?_) (fun hc17 => ?_)
      · rw [if_pos hc17] at hF hS
        refine g_aload_n C d_Mo_goesBehind_93 rfl ?_
        refine m_geta C hE 11 (by decide) (by decide) (by decide) kf_Mo_28 d_Mo_goesBehind_94 ?_
        refine g_iload_n C d_Mo_goesBehind_97 rfl ?_
        obtain ⟨hi18, hS⟩ := hS
        refine m_ald C hE 11 (by decide) (by decide) hi18 d_Mo_goesBehind_98 ?_
        obtain ⟨hs20, hS⟩ := hS
        refine m_callV (n := 1) (av := [.int ((mo_si w3 44 ((w3.1 44) - 1)).2.2.1 11 x2.toNatClampNeg)]) (rest := []) C hE (mc_Mo_work l D cs B dE mo ad _ _ hs20) km_Mo_308 kv_Mo_work kl_Mo_work kd_Mo_work ki_Mo ⟨rfl, by decide, by decide, by decide⟩ rfl ⟨rfl, rfl⟩ (by decide) (by decide) d_Mo_goesBehind_99 (Nat.le_of_ble_eq_true rfl) _ rfl (fun v1 σ1 hv => ?_)
        obtain ⟨rfl, rfl⟩ := hv
        rw [mbind_eq] at hF hS
        generalize F_Mo_work (mo_si w3 44 ((w3.1 44) - 1)) ((mo_si w3 44 ((w3.1 44) - 1)).2.2.1 11 x2.toNatClampNeg) = w19 at hF hS ⊢
        refine GW.eqs (st' := []) rfl ?_
        refine g_goto C 154 d_Mo_goesBehind_102 (by decide) ?_
        exact m_vret C hr hlocks d_Mo_goesBehind_154 (by rw [← hF]; exact ⟨rfl, rfl⟩)
      · rw [if_neg hc17] at hF hS
        refine g_aload_n C d_Mo_goesBehind_84 rfl ?_
        refine m_geta C hE 10 (by decide) (by decide) (by decide) kf_Mo_25 d_Mo_goesBehind_85 ?_
        refine g_iload_n C d_Mo_goesBehind_88 rfl ?_
        obtain ⟨hi21, hS⟩ := hS
        refine m_ald C hE 10 (by decide) (by decide) hi21 d_Mo_goesBehind_89 ?_
        refine g_goto C 99 d_Mo_goesBehind_90 (by decide) ?_
        obtain ⟨hs23, hS⟩ := hS
        refine m_callV (n := 1) (av := [.int ((mo_si w3 44 ((w3.1 44) - 1)).2.2.1 10 x2.toNatClampNeg)]) (rest := []) C hE (mc_Mo_work l D cs B dE mo ad _ _ hs23) km_Mo_308 kv_Mo_work kl_Mo_work kd_Mo_work ki_Mo ⟨rfl, by decide, by decide, by decide⟩ rfl ⟨rfl, rfl⟩ (by decide) (by decide) d_Mo_goesBehind_99 (Nat.le_of_ble_eq_true rfl) _ rfl (fun v1 σ1 hv => ?_)
        obtain ⟨rfl, rfl⟩ := hv
        rw [mbind_eq] at hF hS
        generalize F_Mo_work (mo_si w3 44 ((w3.1 44) - 1)) ((mo_si w3 44 ((w3.1 44) - 1)).2.2.1 10 x2.toNatClampNeg) = w22 at hF hS ⊢
        refine GW.eqs (st' := []) rfl ?_
        refine g_goto C 154 d_Mo_goesBehind_102 (by decide) ?_
        exact m_vret C hr hlocks d_Mo_goesBehind_154 (by rw [← hF]; exact ⟨rfl, rfl⟩)
  · rw [if_pos hc2] at hF hS
    refine g_aload_n C d_Mo_goesBehind_11 rfl ?_
    refine g_aload_n C d_Mo_goesBehind_12 rfl ?_
    refine m_geta C hE 6 (by decide) (by decide) (by decide) kf_Mo_13 d_Mo_goesBehind_13 ?_
    refine g_iload_n C d_Mo_goesBehind_16 rfl ?_
    obtain ⟨hi24, hS⟩ := hS
    refine m_ald C hE 6 (by decide) (by decide) hi24 d_Mo_goesBehind_17 ?_
    refine g_aload_n C d_Mo_goesBehind_18 rfl ?_
    refine m_geta C hE 42 (by decide) (by decide) (by decide) kf_Mo_96 d_Mo_goesBehind_19 ?_
    refine g_iload_n C d_Mo_goesBehind_22 rfl ?_
    obtain ⟨hi25, hS⟩ := hS
    refine m_lald C hE 42 (by decide) (by decide) hi25 d_Mo_goesBehind_23 ?_
    refine g_l2i C d_Mo_goesBehind_24 rfl ?_
    refine g_aload_n C d_Mo_goesBehind_25 rfl ?_
    refine m_getl C hE kf_Mo_186 d_Mo_goesBehind_26 ?_
    refine g_l2i C d_Mo_goesBehind_29 rfl ?_
    obtain ⟨hs27, hS⟩ := hS
    refine m_callS (n := 3) (av := [.int (σ.2.2.1 6 x2.toNatClampNeg), .int ((σ.2.2.2 42 x1.toNatClampNeg).toInt32), .int σ.2.1.toInt32]) (rest := [.ref mo]) C hE (mc_Mo_reckoned l D cs B dE mo ad _ _ _ _ hs27) km_Mo_343 ks_Mo_reckoned kd_Mo_reckoned ki_Mo ⟨rfl, by decide, by decide, by decide⟩ rfl ⟨rfl, rfl⟩ (by decide) (by decide) d_Mo_goesBehind_30 (Nat.le_of_ble_eq_true rfl) _ rfl (fun v1 σ1 hv => ?_)
    obtain ⟨rfl, rfl⟩ := hv
    rw [mbind_eq] at hF hS
    generalize F_Mo_reckoned σ (σ.2.2.1 6 x2.toNatClampNeg) ((σ.2.2.2 42 x1.toNatClampNeg).toInt32) σ.2.1.toInt32 = w26 at hF hS ⊢
    refine GW.eqs (st' := [.int w26.1, .ref mo]) rfl ?_
    refine g_i2l C d_Mo_goesBehind_33 rfl ?_
    obtain ⟨hs29, hS⟩ := hS
    refine m_callV (n := 1) (av := [.long w26.1.toInt64]) (rest := []) C hE (mc_Mo_give l D cs B dE mo ad _ _ hs29) km_Mo_301 kv_Mo_give kl_Mo_give kd_Mo_give ki_Mo ⟨rfl, by decide, by decide, by decide⟩ rfl ⟨rfl, rfl⟩ (by decide) (by decide) d_Mo_goesBehind_34 (Nat.le_of_ble_eq_true rfl) _ rfl (fun v1 σ1 hv => ?_)
    obtain ⟨rfl, rfl⟩ := hv
    rw [mbind_eq] at hF hS
    generalize F_Mo_give w26.2 w26.1.toInt64 = w28 at hF hS ⊢
    refine GW.eqs (st' := []) rfl ?_
    refine g_aload_n C d_Mo_goesBehind_37 rfl ?_
    refine g_dup C d_Mo_goesBehind_38 rfl ?_
    refine m_geti C hE 44 (by decide) (by decide) kf_Mo_283 d_Mo_goesBehind_39 ?_
    refine g_iconst (v := 1) C d_Mo_goesBehind_42 (by decide) ?_
    refine g_isub C d_Mo_goesBehind_43 ?_
    refine m_puti C hE 44 (by decide) (by decide) rfl rfl kf_Mo_283 d_Mo_goesBehind_44 ?_
    exact m_vret C hr hlocks d_Mo_goesBehind_47 (by rw [← hF]; exact ⟨rfl, rfl⟩)
def F_Mo_comes_j140 (n : Nat) (σ : mSt) (x1 : Int32) (x2 : Int32) (x3 : Int32) : Int32 × mSt := if x1 = 0 then ((0, σ)) else (if ((mo_si σ 47 ((σ.1 47) + 1)).2.2.1 5 x3.toNatClampNeg) = 11 then (mbind (F_Mo_performs n (mo_si σ 47 ((σ.1 47) + 1)) ((mo_si σ 47 ((σ.1 47) + 1)).2.2.1 6 x3.toNatClampNeg)) (fun w35 => (1, w35))) else (if (lg_cmp ((mo_si σ 47 ((σ.1 47) + 1)).2.2.2 42 x2.toNatClampNeg) 0) < 0 then (mbind (F_Mo_goOn n (mo_si σ 47 ((σ.1 47) + 1)) (((-1) - ((mo_si σ 47 ((σ.1 47) + 1)).2.2.2 42 x2.toNatClampNeg)).toInt32)) (fun w29 => (1, w29))) else (mbind (F_Mo_callFunction n (mo_si σ 47 ((σ.1 47) + 1)) (((mo_si σ 47 ((σ.1 47) + 1)).2.2.2 42 x2.toNatClampNeg).toInt32)) (fun w32 => (1, w32)))))
def S_Mo_comes_j140 (n : Nat) (σ : mSt) (x1 : Int32) (x2 : Int32) (x3 : Int32) : Prop := if x1 = 0 then (True) else ((vp_in x3 200) ∧ (if ((mo_si σ 47 ((σ.1 47) + 1)).2.2.1 5 x3.toNatClampNeg) = 11 then ((vp_in x3 200) ∧ ((S_Mo_performs n (mo_si σ 47 ((σ.1 47) + 1)) ((mo_si σ 47 ((σ.1 47) + 1)).2.2.1 6 x3.toNatClampNeg)) ∧ (mbind (F_Mo_performs n (mo_si σ 47 ((σ.1 47) + 1)) ((mo_si σ 47 ((σ.1 47) + 1)).2.2.1 6 x3.toNatClampNeg)) (fun w35 => True)))) else ((vp_in x2 17000) ∧ (if (lg_cmp ((mo_si σ 47 ((σ.1 47) + 1)).2.2.2 42 x2.toNatClampNeg) 0) < 0 then ((vp_in x2 17000) ∧ ((S_Mo_goOn n (mo_si σ 47 ((σ.1 47) + 1)) (((-1) - ((mo_si σ 47 ((σ.1 47) + 1)).2.2.2 42 x2.toNatClampNeg)).toInt32)) ∧ (mbind (F_Mo_goOn n (mo_si σ 47 ((σ.1 47) + 1)) (((-1) - ((mo_si σ 47 ((σ.1 47) + 1)).2.2.2 42 x2.toNatClampNeg)).toInt32)) (fun w29 => True)))) else ((vp_in x2 17000) ∧ ((S_Mo_callFunction n (mo_si σ 47 ((σ.1 47) + 1)) (((mo_si σ 47 ((σ.1 47) + 1)).2.2.2 42 x2.toNatClampNeg).toInt32)) ∧ (mbind (F_Mo_callFunction n (mo_si σ 47 ((σ.1 47) + 1)) (((mo_si σ 47 ((σ.1 47) + 1)).2.2.2 42 x2.toNatClampNeg).toInt32)) (fun w32 => True))))))))
set_option maxRecDepth 100000 in
set_option maxHeartbeats 4000000 in
theorem w_Mo_comes_j140 {p : Program} {l : Launch} {e : Env} {s : State} {m : MethodId} {args : Array Value} {below : List Frame} {meth : Method} {c : Code} {D : va_G} {cs : Nat → ClassId} {B : Nat} {dE : Nat × Nat} {mo : Nat} {ad : Nat → Nat} {M0 : gMem} (C : CallFix p m c c_Mo_comes 5 s args gT R_Mo) (hE : gEnv D gcl (gtys cs) gz B dE s) (hr : meth.sig.returnType = (some .boolean)) (hlocks : meth.locks = false) (n : Nat) (σ : mSt) (x1 : Int32) (x2 : Int32) (x3 : Int32) (Fv : Int32 × mSt) (hS : S_Mo_comes_j140 n σ x1 x2 x3) (hF : F_Mo_comes_j140 n σ x1 x2 x3 = Fv) : GW p l e ({ frames := 3, cells := 0, slots := 0, locals := 66 } : Room) s m args below meth c 5 (gA B) (mQ below D cs B mo ad M0 (fun r σ' => r = some (.int Fv.1) ∧ σ' = Fv.2) args s) (mo_P D B cs mo ad M0 σ) 0 0 140 [(0, .ref mo), (1, .int x1), (2, .int x2), (3, .int x3)] [] := by
  unfold F_Mo_comes_j140 at hF
  unfold S_Mo_comes_j140 at hS
  refine g_iload_n C d_Mo_comes_140 rfl ?_
  refine g_if_ne C 146 d_Mo_comes_141 (by decide) (fun hc23 => ?_) (fun hc23 => ?_)
  · rw [if_neg hc23] at hF hS
    refine g_aload_n C d_Mo_comes_146 rfl ?_
    refine g_dup C d_Mo_comes_147 rfl ?_
    refine m_geti C hE 47 (by decide) (by decide) kf_Mo_174 d_Mo_comes_148 ?_
    refine g_iconst (v := 1) C d_Mo_comes_151 (by decide) ?_
    refine g_iadd C d_Mo_comes_152 ?_
    refine m_puti C hE 47 (by decide) (by decide) rfl rfl kf_Mo_174 d_Mo_comes_153 ?_
    refine g_aload_n C d_Mo_comes_156 rfl ?_
    refine m_geta C hE 5 (by decide) (by decide) (by decide) kf_Mo_7 d_Mo_comes_157 ?_
    refine g_iload_n C d_Mo_comes_160 rfl ?_
    obtain ⟨hi24, hS⟩ := hS
    refine m_ald C hE 5 (by decide) (by decide) hi24 d_Mo_comes_161 ?_
    refine g_bipush (v := 11) C d_Mo_comes_162 (by decide) ?_
    refine g_icmp_ne C 180 d_Mo_comes_164 (by decide) (fun hc25 => ?_) (fun hc25 => ?_)
    · rw [if_neg hc25] at hF hS
      refine g_aload_n C d_Mo_comes_180 rfl ?_
      refine m_geta C hE 42 (by decide) (by decide) (by decide) kf_Mo_96 d_Mo_comes_181 ?_
      refine g_iload_n C d_Mo_comes_184 rfl ?_
      obtain ⟨hi26, hS⟩ := hS
      refine m_lald C hE 42 (by decide) (by decide) hi26 d_Mo_comes_185 ?_
      refine g_lconst (v := 0) C d_Mo_comes_186 (by decide) ?_
      refine g_lcmp C d_Mo_comes_187 ?_
      refine g_if_lt C 205 d_Mo_comes_188 (by decide) (fun hc27 => ?_) (fun hc27 => ?_)
      · rw [if_pos hc27] at hF hS
        refine g_aload_n C d_Mo_comes_205 rfl ?_
        refine g_ldc2 (v := -1) C kkl_Mo_335 d_Mo_comes_206 ?_
        refine g_aload_n C d_Mo_comes_209 rfl ?_
        refine m_geta C hE 42 (by decide) (by decide) (by decide) kf_Mo_96 d_Mo_comes_210 ?_
        refine g_iload_n C d_Mo_comes_213 rfl ?_
        obtain ⟨hi28, hS⟩ := hS
        refine m_lald C hE 42 (by decide) (by decide) hi28 d_Mo_comes_214 ?_
        refine g_lsub C d_Mo_comes_215 ?_
        refine g_l2i C d_Mo_comes_216 rfl ?_
        obtain ⟨hs30, hS⟩ := hS
        refine m_callV (n := 1) (av := [.int (((-1) - ((mo_si σ 47 ((σ.1 47) + 1)).2.2.2 42 x2.toNatClampNeg)).toInt32)]) (rest := []) C hE (mc_Mo_goOn l D cs B dE mo ad n _ _ hs30) km_Mo_337 kv_Mo_goOn kl_Mo_goOn kd_Mo_goOn ki_Mo ⟨rfl, by decide, by decide, by decide⟩ rfl ⟨rfl, rfl⟩ (by decide) (by decide) d_Mo_comes_217 (Nat.le_of_ble_eq_true rfl) _ rfl (fun v1 σ1 hv => ?_)
        obtain ⟨rfl, rfl⟩ := hv
        rw [mbind_eq] at hF hS
        generalize F_Mo_goOn n (mo_si σ 47 ((σ.1 47) + 1)) (((-1) - ((mo_si σ 47 ((σ.1 47) + 1)).2.2.2 42 x2.toNatClampNeg)).toInt32) = w29 at hF hS ⊢
        refine GW.eqs (st' := []) rfl ?_
        refine g_iconst (v := 1) C d_Mo_comes_220 (by decide) ?_
        exact m_zret C hr hlocks (by decide) d_Mo_comes_221 (by rw [← hF]; exact ⟨rfl, rfl⟩)
      · rw [if_neg hc27] at hF hS
        refine g_aload_n C d_Mo_comes_191 rfl ?_
        refine g_aload_n C d_Mo_comes_192 rfl ?_
        refine m_geta C hE 42 (by decide) (by decide) (by decide) kf_Mo_96 d_Mo_comes_193 ?_
        refine g_iload_n C d_Mo_comes_196 rfl ?_
        obtain ⟨hi31, hS⟩ := hS
        refine m_lald C hE 42 (by decide) (by decide) hi31 d_Mo_comes_197 ?_
        refine g_l2i C d_Mo_comes_198 rfl ?_
        obtain ⟨hs33, hS⟩ := hS
        refine m_callV (n := 1) (av := [.int (((mo_si σ 47 ((σ.1 47) + 1)).2.2.2 42 x2.toNatClampNeg).toInt32)]) (rest := []) C hE (mc_Mo_callFunction l D cs B dE mo ad n _ _ hs33) km_Mo_332 kv_Mo_callFunction kl_Mo_callFunction kd_Mo_callFunction ki_Mo ⟨rfl, by decide, by decide, by decide⟩ rfl ⟨rfl, rfl⟩ (by decide) (by decide) d_Mo_comes_199 (Nat.le_of_ble_eq_true rfl) _ rfl (fun v1 σ1 hv => ?_)
        obtain ⟨rfl, rfl⟩ := hv
        rw [mbind_eq] at hF hS
        generalize F_Mo_callFunction n (mo_si σ 47 ((σ.1 47) + 1)) (((mo_si σ 47 ((σ.1 47) + 1)).2.2.2 42 x2.toNatClampNeg).toInt32) = w32 at hF hS ⊢
        refine GW.eqs (st' := []) rfl ?_
        refine g_goto C 220 d_Mo_comes_202 (by decide) ?_
        refine g_iconst (v := 1) C d_Mo_comes_220 (by decide) ?_
        exact m_zret C hr hlocks (by decide) d_Mo_comes_221 (by rw [← hF]; exact ⟨rfl, rfl⟩)
    · rw [if_pos hc25] at hF hS
      refine g_aload_n C d_Mo_comes_167 rfl ?_
      refine g_aload_n C d_Mo_comes_168 rfl ?_
      refine m_geta C hE 6 (by decide) (by decide) (by decide) kf_Mo_13 d_Mo_comes_169 ?_
      refine g_iload_n C d_Mo_comes_172 rfl ?_
      obtain ⟨hi34, hS⟩ := hS
      refine m_ald C hE 6 (by decide) (by decide) hi34 d_Mo_comes_173 ?_
      obtain ⟨hs36, hS⟩ := hS
      refine m_callV (n := 1) (av := [.int ((mo_si σ 47 ((σ.1 47) + 1)).2.2.1 6 x3.toNatClampNeg)]) (rest := []) C hE (mc_Mo_performs l D cs B dE mo ad n _ _ hs36) km_Mo_329 kv_Mo_performs kl_Mo_performs kd_Mo_performs ki_Mo ⟨rfl, by decide, by decide, by decide⟩ rfl ⟨rfl, rfl⟩ (by decide) (by decide) d_Mo_comes_174 (Nat.le_of_ble_eq_true rfl) _ rfl (fun v1 σ1 hv => ?_)
      obtain ⟨rfl, rfl⟩ := hv
      rw [mbind_eq] at hF hS
      generalize F_Mo_performs n (mo_si σ 47 ((σ.1 47) + 1)) ((mo_si σ 47 ((σ.1 47) + 1)).2.2.1 6 x3.toNatClampNeg) = w35 at hF hS ⊢
      refine GW.eqs (st' := []) rfl ?_
      refine g_goto C 220 d_Mo_comes_177 (by decide) ?_
      refine g_iconst (v := 1) C d_Mo_comes_220 (by decide) ?_
      exact m_zret C hr hlocks (by decide) d_Mo_comes_221 (by rw [← hF]; exact ⟨rfl, rfl⟩)
  · rw [if_pos hc23] at hF hS
    refine g_iconst (v := 0) C d_Mo_comes_144 (by decide) ?_
    exact m_zret C hr hlocks (by decide) d_Mo_comes_145 (by rw [← hF]; exact ⟨rfl, rfl⟩)
def F_Mo_comes_j77 (n : Nat) (σ : mSt) (x1 : Int32) (x2 : Int32) (x3 : Int32) (z0 : Int32) : Int32 × mSt := if z0 = 0 then (if (σ.2.2.1 5 x3.toNatClampNeg) = 10 then (F_Mo_comes_j140 n σ x1 x2 x3) else (if (σ.2.2.1 5 x3.toNatClampNeg) = 11 then (F_Mo_comes_j140 n σ x1 x2 x3) else (mbind (F_Mo_goesBehind n σ x2 x3) (fun w14 => (1, w14))))) else (mbind (F_Mo_seeAgain n (mo_ai (mo_al σ 42 x2.toNatClampNeg σ.2.1) 41 x2.toNatClampNeg 1) x2) (fun w18 => mbind (F_Mo_work w18 (w18.2.2.1 10 x3.toNatClampNeg)) (fun w21 => (1, w21))))
def S_Mo_comes_j77 (n : Nat) (σ : mSt) (x1 : Int32) (x2 : Int32) (x3 : Int32) (z0 : Int32) : Prop := if z0 = 0 then ((vp_in x3 200) ∧ (if (σ.2.2.1 5 x3.toNatClampNeg) = 10 then (S_Mo_comes_j140 n σ x1 x2 x3) else ((vp_in x3 200) ∧ (if (σ.2.2.1 5 x3.toNatClampNeg) = 11 then (S_Mo_comes_j140 n σ x1 x2 x3) else ((S_Mo_goesBehind n σ x2 x3) ∧ (mbind (F_Mo_goesBehind n σ x2 x3) (fun w14 => True))))))) else ((vp_in x2 17000) ∧ ((vp_in x2 17000) ∧ ((S_Mo_seeAgain n (mo_ai (mo_al σ 42 x2.toNatClampNeg σ.2.1) 41 x2.toNatClampNeg 1) x2) ∧ (mbind (F_Mo_seeAgain n (mo_ai (mo_al σ 42 x2.toNatClampNeg σ.2.1) 41 x2.toNatClampNeg 1) x2) (fun w18 => (vp_in x3 200) ∧ ((S_Mo_work w18 (w18.2.2.1 10 x3.toNatClampNeg)) ∧ (mbind (F_Mo_work w18 (w18.2.2.1 10 x3.toNatClampNeg)) (fun w21 => True))))))))
set_option maxRecDepth 100000 in
set_option maxHeartbeats 4000000 in
theorem w_Mo_comes_j77 {p : Program} {l : Launch} {e : Env} {s : State} {m : MethodId} {args : Array Value} {below : List Frame} {meth : Method} {c : Code} {D : va_G} {cs : Nat → ClassId} {B : Nat} {dE : Nat × Nat} {mo : Nat} {ad : Nat → Nat} {M0 : gMem} (C : CallFix p m c c_Mo_comes 5 s args gT R_Mo) (hE : gEnv D gcl (gtys cs) gz B dE s) (hr : meth.sig.returnType = (some .boolean)) (hlocks : meth.locks = false) (n : Nat) (σ : mSt) (x1 : Int32) (x2 : Int32) (x3 : Int32) (z0 : Int32) (Fv : Int32 × mSt) (hS : S_Mo_comes_j77 n σ x1 x2 x3 z0) (hF : F_Mo_comes_j77 n σ x1 x2 x3 z0 = Fv) : GW p l e ({ frames := 3, cells := 0, slots := 0, locals := 66 } : Room) s m args below meth c 5 (gA B) (mQ below D cs B mo ad M0 (fun r σ' => r = some (.int Fv.1) ∧ σ' = Fv.2) args s) (mo_P D B cs mo ad M0 σ) 0 0 77 [(0, .ref mo), (1, .int x1), (2, .int x2), (3, .int x3)] [.int z0] := by
  unfold F_Mo_comes_j77 at hF
  unfold S_Mo_comes_j77 at hS
  refine g_istore (lv' := [(4, .int z0), (0, .ref mo), (1, .int x1), (2, .int x2), (3, .int x3)]) C d_Mo_comes_77 (by decide) rfl ?_
  refine g_iload C d_Mo_comes_79 rfl ?_
  refine g_if_eq C 118 d_Mo_comes_81 (by decide) (fun hc9 => ?_) (fun hc9 => ?_)
  · rw [if_pos hc9] at hF hS
    refine g_aload_n C d_Mo_comes_118 rfl ?_
    refine m_geta C hE 5 (by decide) (by decide) (by decide) kf_Mo_7 d_Mo_comes_119 ?_
    refine g_iload_n C d_Mo_comes_122 rfl ?_
    obtain ⟨hi10, hS⟩ := hS
    refine m_ald C hE 5 (by decide) (by decide) hi10 d_Mo_comes_123 ?_
    refine g_bipush (v := 10) C d_Mo_comes_124 (by decide) ?_
    refine g_icmp_eq C 140 d_Mo_comes_126 (by decide) (fun hc11 => ?_) (fun hc11 => ?_)
    · rw [if_pos hc11] at hF hS
      refine GW.subl [1, 2, 3, 4] rfl ?_
      exact w_Mo_comes_j140 C hE hr hlocks n σ x1 x2 x3 Fv hS hF
    · rw [if_neg hc11] at hF hS
      refine g_aload_n C d_Mo_comes_129 rfl ?_
      refine m_geta C hE 5 (by decide) (by decide) (by decide) kf_Mo_7 d_Mo_comes_130 ?_
      refine g_iload_n C d_Mo_comes_133 rfl ?_
      obtain ⟨hi12, hS⟩ := hS
      refine m_ald C hE 5 (by decide) (by decide) hi12 d_Mo_comes_134 ?_
      refine g_bipush (v := 11) C d_Mo_comes_135 (by decide) ?_
      refine g_icmp_ne C 222 d_Mo_comes_137 (by decide) (fun hc13 => ?_) (fun hc13 => ?_)
      · rw [if_neg hc13] at hF hS
        refine g_aload_n C d_Mo_comes_222 rfl ?_
        refine g_iload_n C d_Mo_comes_223 rfl ?_
        refine g_iload_n C d_Mo_comes_224 rfl ?_
        obtain ⟨hs15, hS⟩ := hS
        refine m_callV (n := 2) (av := [.int x2, .int x3]) (rest := []) C hE (mc_Mo_goesBehind l D cs B dE mo ad n _ _ _ hs15) km_Mo_340 kv_Mo_goesBehind kl_Mo_goesBehind kd_Mo_goesBehind ki_Mo ⟨rfl, by decide, by decide, by decide⟩ rfl ⟨rfl, rfl⟩ (by decide) (by decide) d_Mo_comes_225 (Nat.le_of_ble_eq_true rfl) _ rfl (fun v1 σ1 hv => ?_)
        obtain ⟨rfl, rfl⟩ := hv
        rw [mbind_eq] at hF hS
        generalize F_Mo_goesBehind n σ x2 x3 = w14 at hF hS ⊢
        refine GW.eqs (st' := []) rfl ?_
        refine g_iconst (v := 1) C d_Mo_comes_228 (by decide) ?_
        exact m_zret C hr hlocks (by decide) d_Mo_comes_229 (by rw [← hF]; exact ⟨rfl, rfl⟩)
      · rw [if_pos hc13] at hF hS
        refine GW.subl [1, 2, 3, 4] rfl ?_
        exact w_Mo_comes_j140 C hE hr hlocks n σ x1 x2 x3 Fv hS hF
  · rw [if_neg hc9] at hF hS
    refine g_aload_n C d_Mo_comes_84 rfl ?_
    refine m_geta C hE 42 (by decide) (by decide) (by decide) kf_Mo_96 d_Mo_comes_85 ?_
    refine g_iload_n C d_Mo_comes_88 rfl ?_
    refine g_aload_n C d_Mo_comes_89 rfl ?_
    refine m_getl C hE kf_Mo_186 d_Mo_comes_90 ?_
    obtain ⟨hi16, hS⟩ := hS
    refine m_last C hE 42 (by decide) (by decide) hi16 d_Mo_comes_93 ?_
    refine g_aload_n C d_Mo_comes_94 rfl ?_
    refine m_geta C hE 41 (by decide) (by decide) (by decide) kf_Mo_93 d_Mo_comes_95 ?_
    refine g_iload_n C d_Mo_comes_98 rfl ?_
    refine g_iconst (v := 1) C d_Mo_comes_99 (by decide) ?_
    obtain ⟨hi17, hS⟩ := hS
    refine m_ast C hE 41 (by decide) (by decide) hi17 d_Mo_comes_100 ?_
    refine g_aload_n C d_Mo_comes_101 rfl ?_
    refine g_iload_n C d_Mo_comes_102 rfl ?_
    obtain ⟨hs19, hS⟩ := hS
    refine m_callV (n := 1) (av := [.int x2]) (rest := []) C hE (mc_Mo_seeAgain l D cs B dE mo ad n _ _ hs19) km_Mo_326 kv_Mo_seeAgain kl_Mo_seeAgain kd_Mo_seeAgain ki_Mo ⟨rfl, by decide, by decide, by decide⟩ rfl ⟨rfl, rfl⟩ (by decide) (by decide) d_Mo_comes_103 (Nat.le_of_ble_eq_true rfl) _ rfl (fun v1 σ1 hv => ?_)
    obtain ⟨rfl, rfl⟩ := hv
    rw [mbind_eq] at hF hS
    generalize F_Mo_seeAgain n (mo_ai (mo_al σ 42 x2.toNatClampNeg σ.2.1) 41 x2.toNatClampNeg 1) x2 = w18 at hF hS ⊢
    refine GW.eqs (st' := []) rfl ?_
    refine g_aload_n C d_Mo_comes_106 rfl ?_
    refine g_aload_n C d_Mo_comes_107 rfl ?_
    refine m_geta C hE 10 (by decide) (by decide) (by decide) kf_Mo_25 d_Mo_comes_108 ?_
    refine g_iload_n C d_Mo_comes_111 rfl ?_
    obtain ⟨hi20, hS⟩ := hS
    refine m_ald C hE 10 (by decide) (by decide) hi20 d_Mo_comes_112 ?_
    obtain ⟨hs22, hS⟩ := hS
    refine m_callV (n := 1) (av := [.int (w18.2.2.1 10 x3.toNatClampNeg)]) (rest := []) C hE (mc_Mo_work l D cs B dE mo ad _ _ hs22) km_Mo_308 kv_Mo_work kl_Mo_work kd_Mo_work ki_Mo ⟨rfl, by decide, by decide, by decide⟩ rfl ⟨rfl, rfl⟩ (by decide) (by decide) d_Mo_comes_113 (Nat.le_of_ble_eq_true rfl) _ rfl (fun v1 σ1 hv => ?_)
    obtain ⟨rfl, rfl⟩ := hv
    rw [mbind_eq] at hF hS
    generalize F_Mo_work w18 (w18.2.2.1 10 x3.toNatClampNeg) = w21 at hF hS ⊢
    refine GW.eqs (st' := []) rfl ?_
    refine g_iconst (v := 1) C d_Mo_comes_116 (by decide) ?_
    exact m_zret C hr hlocks (by decide) d_Mo_comes_117 (by rw [← hF]; exact ⟨rfl, rfl⟩)
def F_Mo_comes_j76 (n : Nat) (σ : mSt) (x1 : Int32) (x2 : Int32) (x3 : Int32) : Int32 × mSt := F_Mo_comes_j77 n σ x1 x2 x3 0
def S_Mo_comes_j76 (n : Nat) (σ : mSt) (x1 : Int32) (x2 : Int32) (x3 : Int32) : Prop := S_Mo_comes_j77 n σ x1 x2 x3 0
set_option maxRecDepth 100000 in
set_option maxHeartbeats 4000000 in
theorem w_Mo_comes_j76 {p : Program} {l : Launch} {e : Env} {s : State} {m : MethodId} {args : Array Value} {below : List Frame} {meth : Method} {c : Code} {D : va_G} {cs : Nat → ClassId} {B : Nat} {dE : Nat × Nat} {mo : Nat} {ad : Nat → Nat} {M0 : gMem} (C : CallFix p m c c_Mo_comes 5 s args gT R_Mo) (hE : gEnv D gcl (gtys cs) gz B dE s) (hr : meth.sig.returnType = (some .boolean)) (hlocks : meth.locks = false) (n : Nat) (σ : mSt) (x1 : Int32) (x2 : Int32) (x3 : Int32) (Fv : Int32 × mSt) (hS : S_Mo_comes_j76 n σ x1 x2 x3) (hF : F_Mo_comes_j76 n σ x1 x2 x3 = Fv) : GW p l e ({ frames := 3, cells := 0, slots := 0, locals := 66 } : Room) s m args below meth c 5 (gA B) (mQ below D cs B mo ad M0 (fun r σ' => r = some (.int Fv.1) ∧ σ' = Fv.2) args s) (mo_P D B cs mo ad M0 σ) 0 0 76 [(0, .ref mo), (1, .int x1), (2, .int x2), (3, .int x3)] [] := by
  unfold F_Mo_comes_j76 at hF
  unfold S_Mo_comes_j76 at hS
  refine g_iconst (v := 0) C d_Mo_comes_76 (by decide) ?_
  refine GW.subl [0, 1, 2, 3] rfl ?_
  exact w_Mo_comes_j77 C hE hr hlocks n σ x1 x2 x3 0 Fv hS hF
def F_Mo_comes_j63 (n : Nat) (σ : mSt) (x1 : Int32) (x2 : Int32) (x3 : Int32) : Int32 × mSt := if (σ.2.2.1 41 x2.toNatClampNeg) = 0 then (F_Mo_comes_j77 n σ x1 x2 x3 1) else (F_Mo_comes_j76 n σ x1 x2 x3)
def S_Mo_comes_j63 (n : Nat) (σ : mSt) (x1 : Int32) (x2 : Int32) (x3 : Int32) : Prop := (vp_in x2 17000) ∧ (if (σ.2.2.1 41 x2.toNatClampNeg) = 0 then (S_Mo_comes_j77 n σ x1 x2 x3 1) else (S_Mo_comes_j76 n σ x1 x2 x3))
set_option maxRecDepth 100000 in
set_option maxHeartbeats 4000000 in
theorem w_Mo_comes_j63 {p : Program} {l : Launch} {e : Env} {s : State} {m : MethodId} {args : Array Value} {below : List Frame} {meth : Method} {c : Code} {D : va_G} {cs : Nat → ClassId} {B : Nat} {dE : Nat × Nat} {mo : Nat} {ad : Nat → Nat} {M0 : gMem} (C : CallFix p m c c_Mo_comes 5 s args gT R_Mo) (hE : gEnv D gcl (gtys cs) gz B dE s) (hr : meth.sig.returnType = (some .boolean)) (hlocks : meth.locks = false) (n : Nat) (σ : mSt) (x1 : Int32) (x2 : Int32) (x3 : Int32) (Fv : Int32 × mSt) (hS : S_Mo_comes_j63 n σ x1 x2 x3) (hF : F_Mo_comes_j63 n σ x1 x2 x3 = Fv) : GW p l e ({ frames := 3, cells := 0, slots := 0, locals := 66 } : Room) s m args below meth c 5 (gA B) (mQ below D cs B mo ad M0 (fun r σ' => r = some (.int Fv.1) ∧ σ' = Fv.2) args s) (mo_P D B cs mo ad M0 σ) 0 0 63 [(0, .ref mo), (1, .int x1), (2, .int x2), (3, .int x3)] [] := by
  unfold F_Mo_comes_j63 at hF
  unfold S_Mo_comes_j63 at hS
  refine g_aload_n C d_Mo_comes_63 rfl ?_
  refine m_geta C hE 41 (by decide) (by decide) (by decide) kf_Mo_93 d_Mo_comes_64 ?_
  refine g_iload_n C d_Mo_comes_67 rfl ?_
  obtain ⟨hi7, hS⟩ := hS
  refine m_ald C hE 41 (by decide) (by decide) hi7 d_Mo_comes_68 ?_
  refine g_if_ne C 76 d_Mo_comes_69 (by decide) (fun hc8 => ?_) (fun hc8 => ?_)
  · rw [if_neg hc8] at hF hS
    refine GW.subl [0, 1, 2, 3] rfl ?_
    exact w_Mo_comes_j76 C hE hr hlocks n σ x1 x2 x3 Fv hS hF
  · rw [if_pos hc8] at hF hS
    refine g_iconst (v := 1) C d_Mo_comes_72 (by decide) ?_
    refine g_goto C 77 d_Mo_comes_73 (by decide) ?_
    refine GW.subl [0, 1, 2, 3] rfl ?_
    exact w_Mo_comes_j77 C hE hr hlocks n σ x1 x2 x3 1 Fv hS hF
def F_Mo_comes (n : Nat) (σ : mSt) (x1 : Int32) : Int32 × mSt := if (σ.2.2.1 40 ((σ.1 44) - 1).toNatClampNeg) = (-1) then ((1, mo_si (mo_si σ 44 ((σ.1 44) - 1)) 49 (((mo_si σ 44 ((σ.1 44) - 1)).1 49) - 1))) else (if (σ.2.2.1 5 (σ.2.2.1 40 ((σ.1 44) - 1).toNatClampNeg).toNatClampNeg) = 9 then (F_Mo_comes_j63 n σ x1 ((σ.1 44) - 1) (σ.2.2.1 40 ((σ.1 44) - 1).toNatClampNeg)) else (if (σ.2.2.1 5 (σ.2.2.1 40 ((σ.1 44) - 1).toNatClampNeg).toNatClampNeg) = 10 then (F_Mo_comes_j63 n σ x1 ((σ.1 44) - 1) (σ.2.2.1 40 ((σ.1 44) - 1).toNatClampNeg)) else (F_Mo_comes_j76 n σ x1 ((σ.1 44) - 1) (σ.2.2.1 40 ((σ.1 44) - 1).toNatClampNeg))))
def S_Mo_comes (n : Nat) (σ : mSt) (x1 : Int32) : Prop := (vp_in ((σ.1 44) - 1) 17000) ∧ (if (σ.2.2.1 40 ((σ.1 44) - 1).toNatClampNeg) = (-1) then (True) else ((vp_in (σ.2.2.1 40 ((σ.1 44) - 1).toNatClampNeg) 200) ∧ (if (σ.2.2.1 5 (σ.2.2.1 40 ((σ.1 44) - 1).toNatClampNeg).toNatClampNeg) = 9 then (S_Mo_comes_j63 n σ x1 ((σ.1 44) - 1) (σ.2.2.1 40 ((σ.1 44) - 1).toNatClampNeg)) else ((vp_in (σ.2.2.1 40 ((σ.1 44) - 1).toNatClampNeg) 200) ∧ (if (σ.2.2.1 5 (σ.2.2.1 40 ((σ.1 44) - 1).toNatClampNeg).toNatClampNeg) = 10 then (S_Mo_comes_j63 n σ x1 ((σ.1 44) - 1) (σ.2.2.1 40 ((σ.1 44) - 1).toNatClampNeg)) else (S_Mo_comes_j76 n σ x1 ((σ.1 44) - 1) (σ.2.2.1 40 ((σ.1 44) - 1).toNatClampNeg)))))))
set_option maxRecDepth 100000 in
set_option maxHeartbeats 4000000 in
theorem mc_Mo_comes (l : Launch) (D : va_G) (cs : Nat → ClassId) (B : Nat) (dE : Nat × Nat) (mo : Nat) (ad : Nat → Nat) (n : Nat) (σ : mSt) (x1 : Int32) (hS : S_Mo_comes n σ x1) : mMet l y_Mo_comes (Cond.code y_Mo_comes c_Mo_comes 5 (some .boolean)) ({ frames := 3, cells := 0, slots := 0, locals := 66 } : Room) D cs B dE mo ad [.ref mo, .int x1] σ (fun r σ' => r = some (.int (F_Mo_comes n σ x1).1) ∧ σ' = (F_Mo_comes n σ x1).2) := by
  refine mMet.ofW (by decide) rfl (Nat.le_of_ble_eq_true rfl) (lv0 := [(0, .ref mo), (1, .int x1)]) rfl ?_
  intro p e s m args below meth c M0 C hE hr hlocks
  generalize hF : F_Mo_comes n σ x1 = Fv
  unfold F_Mo_comes at hF
  unfold S_Mo_comes at hS
  refine g_aload_n C d_Mo_comes_0 rfl ?_
  refine m_geti C hE 44 (by decide) (by decide) kf_Mo_283 d_Mo_comes_1 ?_
  refine g_iconst (v := 1) C d_Mo_comes_4 (by decide) ?_
  refine g_isub C d_Mo_comes_5 ?_
  refine g_istore_n (lv' := [(2, .int ((σ.1 44) - 1)), (0, .ref mo), (1, .int x1)]) C d_Mo_comes_6 (by decide) rfl ?_
  refine g_aload_n C d_Mo_comes_7 rfl ?_
  refine m_geta C hE 40 (by decide) (by decide) (by decide) kf_Mo_90 d_Mo_comes_8 ?_
  refine g_iload_n C d_Mo_comes_11 rfl ?_
  obtain ⟨hi1, hS⟩ := hS
  refine m_ald C hE 40 (by decide) (by decide) hi1 d_Mo_comes_12 ?_
  refine g_istore_n (lv' := [(3, .int (σ.2.2.1 40 ((σ.1 44) - 1).toNatClampNeg)), (2, .int ((σ.1 44) - 1)), (0, .ref mo), (1, .int x1)]) C d_Mo_comes_13 (by decide) rfl ?_
  refine g_iload_n C d_Mo_comes_14 rfl ?_
  refine g_iconst (v := (-1)) C d_Mo_comes_15 (by decide) ?_
  refine g_icmp_ne C 41 d_Mo_comes_16 (by decide) (fun hc2 => ?_) (fun hc2 => ?_)
  · rw [if_neg hc2] at hF hS
    refine g_aload_n C d_Mo_comes_41 rfl ?_
    refine m_geta C hE 5 (by decide) (by decide) (by decide) kf_Mo_7 d_Mo_comes_42 ?_
    refine g_iload_n C d_Mo_comes_45 rfl ?_
    obtain ⟨hi3, hS⟩ := hS
    refine m_ald C hE 5 (by decide) (by decide) hi3 d_Mo_comes_46 ?_
    refine g_bipush (v := 9) C d_Mo_comes_47 (by decide) ?_
    refine g_icmp_eq C 63 d_Mo_comes_49 (by decide) (fun hc4 => ?_) (fun hc4 => ?_)
    · rw [if_pos hc4] at hF hS
      refine GW.subl [2, 3, 1, 0] rfl ?_
      exact w_Mo_comes_j63 C hE hr hlocks n σ x1 ((σ.1 44) - 1) (σ.2.2.1 40 ((σ.1 44) - 1).toNatClampNeg) Fv hS hF
    · rw [if_neg hc4] at hF hS
      refine g_aload_n C d_Mo_comes_52 rfl ?_
      refine m_geta C hE 5 (by decide) (by decide) (by decide) kf_Mo_7 d_Mo_comes_53 ?_
      refine g_iload_n C d_Mo_comes_56 rfl ?_
      obtain ⟨hi5, hS⟩ := hS
      refine m_ald C hE 5 (by decide) (by decide) hi5 d_Mo_comes_57 ?_
      refine g_bipush (v := 10) C d_Mo_comes_58 (by decide) ?_
      refine g_icmp_ne C 76 d_Mo_comes_60 (by decide) (fun hc6 => ?_) (fun hc6 => ?_)
      · rw [if_neg hc6] at hF hS
        refine GW.subl [2, 3, 1, 0] rfl ?_
        exact w_Mo_comes_j76 C hE hr hlocks n σ x1 ((σ.1 44) - 1) (σ.2.2.1 40 ((σ.1 44) - 1).toNatClampNeg) Fv hS hF
      · rw [if_pos hc6] at hF hS
        refine GW.subl [2, 3, 1, 0] rfl ?_
        exact w_Mo_comes_j63 C hE hr hlocks n σ x1 ((σ.1 44) - 1) (σ.2.2.1 40 ((σ.1 44) - 1).toNatClampNeg) Fv hS hF
  · rw [if_pos hc2] at hF hS
    refine g_aload_n C d_Mo_comes_19 rfl ?_
    refine g_dup C d_Mo_comes_20 rfl ?_
    refine m_geti C hE 44 (by decide) (by decide) kf_Mo_283 d_Mo_comes_21 ?_
    refine g_iconst (v := 1) C d_Mo_comes_24 (by decide) ?_
    refine g_isub C d_Mo_comes_25 ?_
    refine m_puti C hE 44 (by decide) (by decide) rfl rfl kf_Mo_283 d_Mo_comes_26 ?_
    refine g_aload_n C d_Mo_comes_29 rfl ?_
    refine g_dup C d_Mo_comes_30 rfl ?_
    refine m_geti C hE 49 (by decide) (by decide) kf_Mo_180 d_Mo_comes_31 ?_
    refine g_iconst (v := 1) C d_Mo_comes_34 (by decide) ?_
    refine g_isub C d_Mo_comes_35 ?_
    refine m_puti C hE 49 (by decide) (by decide) rfl rfl kf_Mo_180 d_Mo_comes_36 ?_
    refine g_iconst (v := 1) C d_Mo_comes_39 (by decide) ?_
    exact m_zret C hr hlocks (by decide) d_Mo_comes_40 (by rw [← hF]; exact ⟨rfl, rfl⟩)
def F_Mo_run_47 : Nat → mSt → Int32 → Int32 → Int32 → mSt × Int32
  | 0, σ, _, _, _ => (σ, 0)
  | n + 1, σ, x1, x2, x3 => if x3 = 0 then ((σ, x2)) else (if (σ.1 46) = 1 then (if (σ.1 51) = 0 then (mbind (F_Mo_workNode n σ) (fun w13 => F_Mo_run_47 n w13 x1 x2 x3)) else (if (σ.1 44) = 0 then (F_Mo_run_47 n (mo_si σ 46 2) x1 x2 x3) else (mbind (F_Mo_comes n σ (x1 - ((σ.1 47) - x2))) (fun w11 => F_Mo_run_47 n w11.2 x1 x2 w11.1)))) else ((σ, x2)))
def S_Mo_run_47 : Nat → mSt → Int32 → Int32 → Int32 → Prop
  | 0, _, _, _, _ => False
  | n + 1, σ, x1, x2, x3 => if x3 = 0 then (True) else (if (σ.1 46) = 1 then (if (σ.1 51) = 0 then ((S_Mo_workNode n σ) ∧ (mbind (F_Mo_workNode n σ) (fun w13 => S_Mo_run_47 n w13 x1 x2 x3))) else (if (σ.1 44) = 0 then (S_Mo_run_47 n (mo_si σ 46 2) x1 x2 x3) else ((S_Mo_comes n σ (x1 - ((σ.1 47) - x2))) ∧ (mbind (F_Mo_comes n σ (x1 - ((σ.1 47) - x2))) (fun w11 => S_Mo_run_47 n w11.2 x1 x2 w11.1))))) else (True))
set_option maxRecDepth 100000 in
set_option maxHeartbeats 4000000 in
theorem w_Mo_run_47 {p : Program} {l : Launch} {e : Env} {s : State} {m : MethodId} {args : Array Value} {below : List Frame} {meth : Method} {c : Code} {D : va_G} {cs : Nat → ClassId} {B : Nat} {dE : Nat × Nat} {mo : Nat} {ad : Nat → Nat} {M0 : gMem} {Q : State → Prop} (C : CallFix p m c c_Mo_run 4 s args gT R_Mo) (hE : gEnv D gcl (gtys cs) gz B dE s) (n : Nat) (σ : mSt) (x1 : Int32) (x2 : Int32) (x3 : Int32) (Fv : mSt × Int32) (hS : S_Mo_run_47 n σ x1 x2 x3) (hF : F_Mo_run_47 n σ x1 x2 x3 = Fv) (hk : GW p l e ({ frames := 4, cells := 0, slots := 0, locals := 90 } : Room) s m args below meth c 4 (gA B) Q (mo_P D B cs mo ad M0 Fv.1) 0 0 104 [(0, .ref mo), (2, .int Fv.2)] []) : GW p l e ({ frames := 4, cells := 0, slots := 0, locals := 90 } : Room) s m args below meth c 4 (gA B) Q (mo_P D B cs mo ad M0 σ) 0 0 47 [(0, .ref mo), (1, .int x1), (2, .int x2), (3, .int x3)] [] := by
  induction n generalizing σ x1 x2 x3 Fv with
  | zero => exact hS.elim
  | succ n ih =>
    unfold F_Mo_run_47 at hF
    unfold S_Mo_run_47 at hS
    refine g_iload_n C d_Mo_run_47 rfl ?_
    refine g_if_eq C 104 d_Mo_run_48 (by decide) (fun hc7 => ?_) (fun hc7 => ?_)
    · rw [if_pos hc7] at hF hS
      refine GW.subl [0, 2] rfl ?_
      rw [← hF] at hk
      exact hk
    · rw [if_neg hc7] at hF hS
      refine g_aload_n C d_Mo_run_51 rfl ?_
      refine m_geti C hE 46 (by decide) (by decide) kf_Mo_161 d_Mo_run_52 ?_
      refine g_iconst (v := 1) C d_Mo_run_55 (by decide) ?_
      refine g_icmp_ne C 104 d_Mo_run_56 (by decide) (fun hc8 => ?_) (fun hc8 => ?_)
      · rw [if_neg hc8] at hF hS
        refine GW.subl [0, 2] rfl ?_
        rw [← hF] at hk
        exact hk
      · rw [if_pos hc8] at hF hS
        refine g_aload_n C d_Mo_run_59 rfl ?_
        refine m_geti C hE 51 (by decide) (by decide) kf_Mo_289 d_Mo_run_60 ?_
        refine g_if_ne C 73 d_Mo_run_63 (by decide) (fun hc9 => ?_) (fun hc9 => ?_)
        · rw [if_neg hc9] at hF hS
          refine g_aload_n C d_Mo_run_73 rfl ?_
          refine m_geti C hE 44 (by decide) (by decide) kf_Mo_283 d_Mo_run_74 ?_
          refine g_if_ne C 88 d_Mo_run_77 (by decide) (fun hc10 => ?_) (fun hc10 => ?_)
          · rw [if_neg hc10] at hF hS
            refine g_aload_n C d_Mo_run_88 rfl ?_
            refine g_iload_n C d_Mo_run_89 rfl ?_
            refine g_aload_n C d_Mo_run_90 rfl ?_
            refine m_geti C hE 47 (by decide) (by decide) kf_Mo_174 d_Mo_run_91 ?_
            refine g_iload_n C d_Mo_run_94 rfl ?_
            refine g_isub C d_Mo_run_95 ?_
            refine g_isub C d_Mo_run_96 ?_
            obtain ⟨hs12, hS⟩ := hS
            refine m_callV (n := 1) (av := [.int (x1 - ((σ.1 47) - x2))]) (rest := []) C hE (mc_Mo_comes l D cs B dE mo ad n _ _ hs12) km_Mo_349 kv_Mo_comes kl_Mo_comes kd_Mo_comes ki_Mo ⟨rfl, by decide, by decide, by decide⟩ rfl ⟨rfl, rfl⟩ (by decide) (by decide) d_Mo_run_97 (Nat.le_of_ble_eq_true rfl) _ rfl (fun v1 σ1 hv => ?_)
            obtain ⟨rfl, rfl⟩ := hv
            rw [mbind_eq] at hF hS
            generalize F_Mo_comes n σ (x1 - ((σ.1 47) - x2)) = w11 at hF hS ⊢
            refine GW.eqs (st' := [.int w11.1]) rfl ?_
            refine g_istore_n (lv' := [(3, .int w11.1), (0, .ref mo), (1, .int x1), (2, .int x2)]) C d_Mo_run_100 (by decide) rfl ?_
            refine g_goto C 47 d_Mo_run_101 (by decide) ?_
            refine GW.subl [1, 2, 3, 0] rfl ?_
            exact ih w11.2 x1 x2 w11.1 Fv hS hF hk
          · rw [if_pos hc10] at hF hS
            refine g_aload_n C d_Mo_run_80 rfl ?_
            refine g_iconst (v := 2) C d_Mo_run_81 (by decide) ?_
            refine m_puti C hE 46 (by decide) (by decide) rfl rfl kf_Mo_161 d_Mo_run_82 ?_
            refine g_goto C 47 d_Mo_run_85 (by decide) ?_
            refine GW.subl [0, 1, 2, 3] rfl ?_
            exact ih (mo_si σ 46 2) x1 x2 x3 Fv hS hF hk
        · rw [if_pos hc9] at hF hS
          refine g_aload_n C d_Mo_run_66 rfl ?_
          obtain ⟨hs14, hS⟩ := hS
          refine m_callV (n := 0) (av := []) (rest := []) C hE (mc_Mo_workNode l D cs B dE mo ad n _ hs14) km_Mo_346 kv_Mo_workNode kl_Mo_workNode kd_Mo_workNode ki_Mo ⟨rfl, by decide, by decide, by decide⟩ rfl ⟨rfl, rfl⟩ (by decide) (by decide) d_Mo_run_67 (Nat.le_of_ble_eq_true rfl) _ rfl (fun v1 σ1 hv => ?_)
          obtain ⟨rfl, rfl⟩ := hv
          rw [mbind_eq] at hF hS
          generalize F_Mo_workNode n σ = w13 at hF hS ⊢
          refine GW.eqs (st' := []) rfl ?_
          refine g_goto C 47 d_Mo_run_70 (by decide) ?_
          refine GW.subl [0, 1, 2, 3] rfl ?_
          exact ih w13 x1 x2 x3 Fv hS hF hk
def F_Mo_run_j28 (n : Nat) (σ : mSt) (x1 : Int32) (z0 : Int32) : Int32 × mSt := if ((mo_si σ 4 z0).1 4) = 0 then (mbind (F_Mo_run_47 n (mo_si σ 4 z0) x1 ((mo_si σ 4 z0).1 47) 1) (fun w5 => ((w5.1.1 47) - w5.2, w5.1))) else ((0, mo_si σ 4 z0))
def S_Mo_run_j28 (n : Nat) (σ : mSt) (x1 : Int32) (z0 : Int32) : Prop := if ((mo_si σ 4 z0).1 4) = 0 then ((S_Mo_run_47 n (mo_si σ 4 z0) x1 ((mo_si σ 4 z0).1 47) 1) ∧ (mbind (F_Mo_run_47 n (mo_si σ 4 z0) x1 ((mo_si σ 4 z0).1 47) 1) (fun w5 => True))) else (True)
set_option maxRecDepth 100000 in
set_option maxHeartbeats 4000000 in
theorem w_Mo_run_j28 {p : Program} {l : Launch} {e : Env} {s : State} {m : MethodId} {args : Array Value} {below : List Frame} {meth : Method} {c : Code} {D : va_G} {cs : Nat → ClassId} {B : Nat} {dE : Nat × Nat} {mo : Nat} {ad : Nat → Nat} {M0 : gMem} (C : CallFix p m c c_Mo_run 4 s args gT R_Mo) (hE : gEnv D gcl (gtys cs) gz B dE s) (hr : meth.sig.returnType = (some .int)) (hlocks : meth.locks = false) (n : Nat) (σ : mSt) (x1 : Int32) (z0 : Int32) (Fv : Int32 × mSt) (hS : S_Mo_run_j28 n σ x1 z0) (hF : F_Mo_run_j28 n σ x1 z0 = Fv) : GW p l e ({ frames := 4, cells := 0, slots := 0, locals := 90 } : Room) s m args below meth c 4 (gA B) (mQ below D cs B mo ad M0 (fun r σ' => r = some (.int Fv.1) ∧ σ' = Fv.2) args s) (mo_P D B cs mo ad M0 σ) 0 0 28 [(0, .ref mo), (1, .int x1)] [.int z0, .ref mo] := by
  unfold F_Mo_run_j28 at hF
  unfold S_Mo_run_j28 at hS
  refine m_puti C hE 4 (by decide) (by decide) rfl rfl kf_Mo_142 d_Mo_run_28 ?_
  refine g_aload_n C d_Mo_run_31 rfl ?_
  refine m_geti C hE 4 (by decide) (by decide) kf_Mo_142 d_Mo_run_32 ?_
  refine g_if_eq C 40 d_Mo_run_35 (by decide) (fun hc4 => ?_) (fun hc4 => ?_)
  · rw [if_pos hc4] at hF hS
    refine g_aload_n C d_Mo_run_40 rfl ?_
    refine m_geti C hE 47 (by decide) (by decide) kf_Mo_174 d_Mo_run_41 ?_
    refine g_istore_n (lv' := [(2, .int ((mo_si σ 4 z0).1 47)), (0, .ref mo), (1, .int x1)]) C d_Mo_run_44 (by decide) rfl ?_
    refine g_iconst (v := 1) C d_Mo_run_45 (by decide) ?_
    refine g_istore_n (lv' := [(3, .int 1), (2, .int ((mo_si σ 4 z0).1 47)), (0, .ref mo), (1, .int x1)]) C d_Mo_run_46 (by decide) rfl ?_
    obtain ⟨hs6, hS⟩ := hS
    rw [mbind_eq] at hF hS
    refine GW.subl [2, 3, 1, 0] rfl ?_
    refine w_Mo_run_47 C hE n (mo_si σ 4 z0) x1 ((mo_si σ 4 z0).1 47) 1 _ hs6 rfl ?_
    generalize F_Mo_run_47 n (mo_si σ 4 z0) x1 ((mo_si σ 4 z0).1 47) 1 = w5 at hF hS ⊢
    refine g_aload_n C d_Mo_run_104 rfl ?_
    refine m_geti C hE 47 (by decide) (by decide) kf_Mo_174 d_Mo_run_105 ?_
    refine g_iload_n C d_Mo_run_108 rfl ?_
    refine g_isub C d_Mo_run_109 ?_
    exact m_iret C hr hlocks d_Mo_run_110 (by rw [← hF]; exact ⟨rfl, rfl⟩)
  · rw [if_neg hc4] at hF hS
    refine g_iconst (v := 0) C d_Mo_run_38 (by decide) ?_
    exact m_iret C hr hlocks d_Mo_run_39 (by rw [← hF]; exact ⟨rfl, rfl⟩)
def F_Mo_run_j23 (n : Nat) (σ : mSt) (x1 : Int32) : Int32 × mSt := F_Mo_run_j28 n σ x1 2
def S_Mo_run_j23 (n : Nat) (σ : mSt) (x1 : Int32) : Prop := S_Mo_run_j28 n σ x1 2
set_option maxRecDepth 100000 in
set_option maxHeartbeats 4000000 in
theorem w_Mo_run_j23 {p : Program} {l : Launch} {e : Env} {s : State} {m : MethodId} {args : Array Value} {below : List Frame} {meth : Method} {c : Code} {D : va_G} {cs : Nat → ClassId} {B : Nat} {dE : Nat × Nat} {mo : Nat} {ad : Nat → Nat} {M0 : gMem} (C : CallFix p m c c_Mo_run 4 s args gT R_Mo) (hE : gEnv D gcl (gtys cs) gz B dE s) (hr : meth.sig.returnType = (some .int)) (hlocks : meth.locks = false) (n : Nat) (σ : mSt) (x1 : Int32) (Fv : Int32 × mSt) (hS : S_Mo_run_j23 n σ x1) (hF : F_Mo_run_j23 n σ x1 = Fv) : GW p l e ({ frames := 4, cells := 0, slots := 0, locals := 90 } : Room) s m args below meth c 4 (gA B) (mQ below D cs B mo ad M0 (fun r σ' => r = some (.int Fv.1) ∧ σ' = Fv.2) args s) (mo_P D B cs mo ad M0 σ) 0 0 23 [(0, .ref mo), (1, .int x1)] [.ref mo] := by
  unfold F_Mo_run_j23 at hF
  unfold S_Mo_run_j23 at hS
  refine g_iconst (v := 2) C d_Mo_run_23 (by decide) ?_
  refine g_goto C 28 d_Mo_run_24 (by decide) ?_
  refine GW.subl [0, 1] rfl ?_
  exact w_Mo_run_j28 C hE hr hlocks n σ x1 2 Fv hS hF
def F_Mo_run (n : Nat) (σ : mSt) (x1 : Int32) : Int32 × mSt := if (σ.1 46) = 0 then (F_Mo_run_j28 n σ x1 1) else (if x1 < 0 then (F_Mo_run_j23 n σ x1) else (if x1 ≤ 200 then (F_Mo_run_j28 n σ x1 0) else (F_Mo_run_j23 n σ x1)))
def S_Mo_run (n : Nat) (σ : mSt) (x1 : Int32) : Prop := if (σ.1 46) = 0 then (S_Mo_run_j28 n σ x1 1) else (if x1 < 0 then (S_Mo_run_j23 n σ x1) else (if x1 ≤ 200 then (S_Mo_run_j28 n σ x1 0) else (S_Mo_run_j23 n σ x1)))
set_option maxRecDepth 100000 in
set_option maxHeartbeats 4000000 in
theorem mc_Mo_run (l : Launch) (D : va_G) (cs : Nat → ClassId) (B : Nat) (dE : Nat × Nat) (mo : Nat) (ad : Nat → Nat) (n : Nat) (σ : mSt) (x1 : Int32) (hS : S_Mo_run n σ x1) : mMet l y_Mo_run (Cond.code y_Mo_run c_Mo_run 4 (some .int)) ({ frames := 4, cells := 0, slots := 0, locals := 90 } : Room) D cs B dE mo ad [.ref mo, .int x1] σ (fun r σ' => r = some (.int (F_Mo_run n σ x1).1) ∧ σ' = (F_Mo_run n σ x1).2) := by
  refine mMet.ofW (by decide) rfl (Nat.le_of_ble_eq_true rfl) (lv0 := [(0, .ref mo), (1, .int x1)]) rfl ?_
  intro p e s m args below meth c M0 C hE hr hlocks
  generalize hF : F_Mo_run n σ x1 = Fv
  unfold F_Mo_run at hF
  unfold S_Mo_run at hS
  refine g_aload_n C d_Mo_run_0 rfl ?_
  refine g_aload_n C d_Mo_run_1 rfl ?_
  refine m_geti C hE 46 (by decide) (by decide) kf_Mo_161 d_Mo_run_2 ?_
  refine g_if_ne C 12 d_Mo_run_5 (by decide) (fun hc1 => ?_) (fun hc1 => ?_)
  · rw [if_neg hc1] at hF hS
    refine g_iload_n C d_Mo_run_12 rfl ?_
    refine g_if_lt C 23 d_Mo_run_13 (by decide) (fun hc2 => ?_) (fun hc2 => ?_)
    · rw [if_pos hc2] at hF hS
      refine GW.subl [0, 1] rfl ?_
      exact w_Mo_run_j23 C hE hr hlocks n σ x1 Fv hS hF
    · rw [if_neg hc2] at hF hS
      refine g_iload_n C d_Mo_run_16 rfl ?_
      refine g_sipush (v := 200) C d_Mo_run_17 (by decide) ?_
      refine g_icmp_le C 27 d_Mo_run_20 (by decide) (fun hc3 => ?_) (fun hc3 => ?_)
      · rw [if_pos hc3] at hF hS
        refine g_iconst (v := 0) C d_Mo_run_27 (by decide) ?_
        refine GW.subl [0, 1] rfl ?_
        exact w_Mo_run_j28 C hE hr hlocks n σ x1 0 Fv hS hF
      · rw [if_neg hc3] at hF hS
        refine GW.subl [0, 1] rfl ?_
        exact w_Mo_run_j23 C hE hr hlocks n σ x1 Fv hS hF
  · rw [if_pos hc1] at hF hS
    refine g_iconst (v := 1) C d_Mo_run_8 (by decide) ?_
    refine g_goto C 28 d_Mo_run_9 (by decide) ?_
    refine GW.subl [0, 1] rfl ?_
    exact w_Mo_run_j28 C hE hr hlocks n σ x1 1 Fv hS hF
def F_Mo_state (σ : mSt) (x1 : Int32) : Int32 × mSt := if x1 = 0 then (((mo_si σ 4 0).1 46, mo_si σ 4 0)) else (if x1 = 1 then (if ((mo_si σ 4 0).1 46) = 2 then (if ((mo_si σ 4 0).1 37) < 3 then ((((mo_si σ 4 0).2.1).toInt32, mo_si σ 4 0)) else ((0, mo_si σ 4 0))) else ((0, mo_si σ 4 0))) else (if x1 = 2 then (if ((mo_si σ 4 0).1 46) = 0 then ((0, mo_si σ 4 0)) else (((mo_si σ 4 0).1 47, mo_si σ 4 0))) else (if x1 = 3 then (if ((mo_si σ 4 0).1 46) = 0 then ((0, mo_si σ 4 0)) else (((mo_si σ 4 0).1 48, mo_si σ 4 0))) else (if x1 = 4 then (if ((mo_si σ 4 0).1 46) = 0 then ((0, mo_si σ 4 0)) else (((mo_si σ 4 0).1 49, mo_si σ 4 0))) else (if x1 = 5 then (if ((mo_si σ 4 0).1 46) = 4 then (((mo_si σ 4 0).1 50, mo_si σ 4 0)) else (((-1), mo_si σ 4 0))) else (((-1), mo_si σ 4 0)))))))
def S_Mo_state (σ : mSt) (x1 : Int32) : Prop := if x1 = 0 then (True) else (if x1 = 1 then (if ((mo_si σ 4 0).1 46) = 2 then (if ((mo_si σ 4 0).1 37) < 3 then (True) else (True)) else (True)) else (if x1 = 2 then (if ((mo_si σ 4 0).1 46) = 0 then (True) else (True)) else (if x1 = 3 then (if ((mo_si σ 4 0).1 46) = 0 then (True) else (True)) else (if x1 = 4 then (if ((mo_si σ 4 0).1 46) = 0 then (True) else (True)) else (if x1 = 5 then (if ((mo_si σ 4 0).1 46) = 4 then (True) else (True)) else (True))))))
set_option maxRecDepth 100000 in
set_option maxHeartbeats 4000000 in
theorem mc_Mo_state (l : Launch) (D : va_G) (cs : Nat → ClassId) (B : Nat) (dE : Nat × Nat) (mo : Nat) (ad : Nat → Nat) (σ : mSt) (x1 : Int32) (hS : S_Mo_state σ x1) : mMet l y_Mo_state (Cond.code y_Mo_state c_Mo_state 2 (some .int)) ({ frames := 0, cells := 0, slots := 0, locals := 0 } : Room) D cs B dE mo ad [.ref mo, .int x1] σ (fun r σ' => r = some (.int (F_Mo_state σ x1).1) ∧ σ' = (F_Mo_state σ x1).2) := by
  refine mMet.ofW (by decide) rfl (Nat.le_of_ble_eq_true rfl) (lv0 := [(0, .ref mo), (1, .int x1)]) rfl ?_
  intro p e s m args below meth c M0 C hE hr hlocks
  generalize hF : F_Mo_state σ x1 = Fv
  unfold F_Mo_state at hF
  unfold S_Mo_state at hS
  refine g_aload_n C d_Mo_state_0 rfl ?_
  refine g_iconst (v := 0) C d_Mo_state_1 (by decide) ?_
  refine m_puti C hE 4 (by decide) (by decide) rfl rfl kf_Mo_142 d_Mo_state_2 ?_
  refine g_iload_n C d_Mo_state_5 rfl ?_
  by_cases hc1 : x1 = 0
  · rw [if_pos hc1] at hF hS
    refine g_tableIn C 44 d_Mo_state_6 (by rw [hc1]; decide) (by rw [hc1]; decide) (by rw [hc1]; rfl) (by decide) ?_
    refine g_aload_n C d_Mo_state_44 rfl ?_
    refine m_geti C hE 46 (by decide) (by decide) kf_Mo_161 d_Mo_state_45 ?_
    exact m_iret C hr hlocks d_Mo_state_48 (by rw [← hF]; exact ⟨rfl, rfl⟩)
  · rw [if_neg hc1] at hF hS
    by_cases hc2 : x1 = 1
    · rw [if_pos hc2] at hF hS
      refine g_tableIn C 49 d_Mo_state_6 (by rw [hc2]; decide) (by rw [hc2]; decide) (by rw [hc2]; rfl) (by decide) ?_
      refine g_aload_n C d_Mo_state_49 rfl ?_
      refine m_geti C hE 46 (by decide) (by decide) kf_Mo_161 d_Mo_state_50 ?_
      refine g_iconst (v := 2) C d_Mo_state_53 (by decide) ?_
      refine g_icmp_ne C 65 d_Mo_state_54 (by decide) (fun hc3 => ?_) (fun hc3 => ?_)
      · rw [if_neg hc3] at hF hS
        refine g_iconst (v := 0) C d_Mo_state_65 (by decide) ?_
        refine g_goto C 74 d_Mo_state_66 (by decide) ?_
        exact m_iret C hr hlocks d_Mo_state_74 (by rw [← hF]; exact ⟨rfl, rfl⟩)
      · rw [if_pos hc3] at hF hS
        refine g_aload_n C d_Mo_state_57 rfl ?_
        refine m_geti C hE 37 (by decide) (by decide) kf_Mo_277 d_Mo_state_58 ?_
        refine g_iconst (v := 3) C d_Mo_state_61 (by decide) ?_
        refine g_icmp_lt C 69 d_Mo_state_62 (by decide) (fun hc4 => ?_) (fun hc4 => ?_)
        · rw [if_pos hc4] at hF hS
          refine g_aload_n C d_Mo_state_69 rfl ?_
          refine m_getl C hE kf_Mo_186 d_Mo_state_70 ?_
          refine g_l2i C d_Mo_state_73 rfl ?_
          exact m_iret C hr hlocks d_Mo_state_74 (by rw [← hF]; exact ⟨rfl, rfl⟩)
        · rw [if_neg hc4] at hF hS
          refine g_iconst (v := 0) C d_Mo_state_65 (by decide) ?_
          refine g_goto C 74 d_Mo_state_66 (by decide) ?_
          exact m_iret C hr hlocks d_Mo_state_74 (by rw [← hF]; exact ⟨rfl, rfl⟩)
    · rw [if_neg hc2] at hF hS
      by_cases hc5 : x1 = 2
      · rw [if_pos hc5] at hF hS
        refine g_tableIn C 75 d_Mo_state_6 (by rw [hc5]; decide) (by rw [hc5]; decide) (by rw [hc5]; rfl) (by decide) ?_
        refine g_aload_n C d_Mo_state_75 rfl ?_
        refine m_geti C hE 46 (by decide) (by decide) kf_Mo_161 d_Mo_state_76 ?_
        refine g_if_ne C 86 d_Mo_state_79 (by decide) (fun hc6 => ?_) (fun hc6 => ?_)
        · rw [if_neg hc6] at hF hS
          refine g_aload_n C d_Mo_state_86 rfl ?_
          refine m_geti C hE 47 (by decide) (by decide) kf_Mo_174 d_Mo_state_87 ?_
          exact m_iret C hr hlocks d_Mo_state_90 (by rw [← hF]; exact ⟨rfl, rfl⟩)
        · rw [if_pos hc6] at hF hS
          refine g_iconst (v := 0) C d_Mo_state_82 (by decide) ?_
          refine g_goto C 90 d_Mo_state_83 (by decide) ?_
          exact m_iret C hr hlocks d_Mo_state_90 (by rw [← hF]; exact ⟨rfl, rfl⟩)
      · rw [if_neg hc5] at hF hS
        by_cases hc7 : x1 = 3
        · rw [if_pos hc7] at hF hS
          refine g_tableIn C 91 d_Mo_state_6 (by rw [hc7]; decide) (by rw [hc7]; decide) (by rw [hc7]; rfl) (by decide) ?_
          refine g_aload_n C d_Mo_state_91 rfl ?_
          refine m_geti C hE 46 (by decide) (by decide) kf_Mo_161 d_Mo_state_92 ?_
          refine g_if_ne C 102 d_Mo_state_95 (by decide) (fun hc8 => ?_) (fun hc8 => ?_)
          · rw [if_neg hc8] at hF hS
            refine g_aload_n C d_Mo_state_102 rfl ?_
            refine m_geti C hE 48 (by decide) (by decide) kf_Mo_177 d_Mo_state_103 ?_
            exact m_iret C hr hlocks d_Mo_state_106 (by rw [← hF]; exact ⟨rfl, rfl⟩)
          · rw [if_pos hc8] at hF hS
            refine g_iconst (v := 0) C d_Mo_state_98 (by decide) ?_
            refine g_goto C 106 d_Mo_state_99 (by decide) ?_
            exact m_iret C hr hlocks d_Mo_state_106 (by rw [← hF]; exact ⟨rfl, rfl⟩)
        · rw [if_neg hc7] at hF hS
          by_cases hc9 : x1 = 4
          · rw [if_pos hc9] at hF hS
            refine g_tableIn C 107 d_Mo_state_6 (by rw [hc9]; decide) (by rw [hc9]; decide) (by rw [hc9]; rfl) (by decide) ?_
            refine g_aload_n C d_Mo_state_107 rfl ?_
            refine m_geti C hE 46 (by decide) (by decide) kf_Mo_161 d_Mo_state_108 ?_
            refine g_if_ne C 118 d_Mo_state_111 (by decide) (fun hc10 => ?_) (fun hc10 => ?_)
            · rw [if_neg hc10] at hF hS
              refine g_aload_n C d_Mo_state_118 rfl ?_
              refine m_geti C hE 49 (by decide) (by decide) kf_Mo_180 d_Mo_state_119 ?_
              exact m_iret C hr hlocks d_Mo_state_122 (by rw [← hF]; exact ⟨rfl, rfl⟩)
            · rw [if_pos hc10] at hF hS
              refine g_iconst (v := 0) C d_Mo_state_114 (by decide) ?_
              refine g_goto C 122 d_Mo_state_115 (by decide) ?_
              exact m_iret C hr hlocks d_Mo_state_122 (by rw [← hF]; exact ⟨rfl, rfl⟩)
          · rw [if_neg hc9] at hF hS
            by_cases hc11 : x1 = 5
            · rw [if_pos hc11] at hF hS
              refine g_tableIn C 123 d_Mo_state_6 (by rw [hc11]; decide) (by rw [hc11]; decide) (by rw [hc11]; rfl) (by decide) ?_
              refine g_aload_n C d_Mo_state_123 rfl ?_
              refine m_geti C hE 46 (by decide) (by decide) kf_Mo_161 d_Mo_state_124 ?_
              refine g_iconst (v := 4) C d_Mo_state_127 (by decide) ?_
              refine g_icmp_ne C 138 d_Mo_state_128 (by decide) (fun hc12 => ?_) (fun hc12 => ?_)
              · rw [if_neg hc12] at hF hS
                refine g_iconst (v := (-1)) C d_Mo_state_138 (by decide) ?_
                exact m_iret C hr hlocks d_Mo_state_139 (by rw [← hF]; exact ⟨rfl, rfl⟩)
              · rw [if_pos hc12] at hF hS
                refine g_aload_n C d_Mo_state_131 rfl ?_
                refine m_geti C hE 50 (by decide) (by decide) kf_Mo_183 d_Mo_state_132 ?_
                refine g_goto C 139 d_Mo_state_135 (by decide) ?_
                exact m_iret C hr hlocks d_Mo_state_139 (by rw [← hF]; exact ⟨rfl, rfl⟩)
            · rw [if_neg hc11] at hF hS
              refine g_tableOut C 140 d_Mo_state_6 (by have := lv_neT hc1 (show (0 : Int32).toInt = 0 by decide); have := lv_neT hc2 (show (1 : Int32).toInt = 1 by decide); have := lv_neT hc5 (show (2 : Int32).toInt = 2 by decide); have := lv_neT hc7 (show (3 : Int32).toInt = 3 by decide); have := lv_neT hc9 (show (4 : Int32).toInt = 4 by decide); have := lv_neT hc11 (show (5 : Int32).toInt = 5 by decide); omega) (by decide) ?_
              refine g_iconst (v := (-1)) C d_Mo_state_140 (by decide) ?_
              exact m_iret C hr hlocks d_Mo_state_141 (by rw [← hF]; exact ⟨rfl, rfl⟩)
