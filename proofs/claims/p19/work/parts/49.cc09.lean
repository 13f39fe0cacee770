def F_Ma_apply (cs : Nat → ClassId) (dE : Nat × Nat) (M : gMem) (a0 : Nat) (x1 : Option Nat) (x2 : Int32) : gMem := mbind (F_Ma_takesFuel cs M a0 x1 x2) (fun w3 => if w3.1 = 0 then (w3.2) else (mbind (F_Fr_pop cs w3.2 (x1.getD 0) ) (fun w7 => mbind (F_Fr_pop cs w7.2 (x1.getD 0) ) (fun w11 => mbind (F_St_thingAt cs dE w11.2 ((cQ w7.2 a0 1).getD 0) w11.1) (fun w14 => if w14 = none then (w11.2) else (if (cI w11.2 (w14.getD 0) 2) = 0 then (mbind (F_Ma_isDeep cs w11.2 a0 1) (fun w20 => if w20.1 = 0 then (mbind (F_Ma_enter cs dE w20.2 a0 x1 w14 ((cI w20.2 (w14.getD 0) 1) + 1)) (fun w25 => mbind (F_Co_field cs w25 ((cQ w25 a0 0).getD 0) (cI w25 (w14.getD 0) 1) 1) (fun w31 => mbind (F_Fr_give cs w25 ((cQ w25 a0 10).getD 0) w31 w7.1) (fun w34 => w34)))) else (w20.2))) else (mbind (F_Ma_resume cs w11.2 a0 x1 w14 w7.1) (fun w37 => w37))))))))
def S_Ma_apply (cs : Nat → ClassId) (lim : Nat × Nat) (dE : Nat × Nat) (M : gMem) (a0 : Nat) (x1 : Option Nat) (x2 : Int32) : Prop := (cOk 8 M a0) ∧ ((S_Ma_takesFuel cs lim M a0 x1 x2) ∧ (mbind (F_Ma_takesFuel cs M a0 x1 x2) (fun w3 => if w3.1 = 0 then (True) else ((cOq 10 w3.2 x1) ∧ ((S_Fr_pop cs lim w3.2 (x1.getD 0) ) ∧ (mbind (F_Fr_pop cs w3.2 (x1.getD 0) ) (fun w7 => (cOk 8 w7.2 a0) ∧ ((cOq 10 w7.2 x1) ∧ ((S_Fr_pop cs lim w7.2 (x1.getD 0) ) ∧ (mbind (F_Fr_pop cs w7.2 (x1.getD 0) ) (fun w11 => (cOq 9 w11.2 (cQ w7.2 a0 1)) ∧ ((S_St_thingAt cs lim dE w11.2 ((cQ w7.2 a0 1).getD 0) w11.1) ∧ (mbind (F_St_thingAt cs dE w11.2 ((cQ w7.2 a0 1).getD 0) w11.1) (fun w14 => if w14 = none then (True) else ((cOq 11 w11.2 w14) ∧ (if (cI w11.2 (w14.getD 0) 2) = 0 then ((cOk 8 w11.2 a0) ∧ ((S_Ma_isDeep cs lim w11.2 a0 1) ∧ (mbind (F_Ma_isDeep cs w11.2 a0 1) (fun w20 => if w20.1 = 0 then ((cOq 11 w20.2 w14) ∧ ((cOk 8 w20.2 a0) ∧ ((S_Ma_enter cs lim dE w20.2 a0 x1 w14 ((cI w20.2 (w14.getD 0) 1) + 1)) ∧ (mbind (F_Ma_enter cs dE w20.2 a0 x1 w14 ((cI w20.2 (w14.getD 0) 1) + 1)) (fun w25 => (cOk 8 w25 a0) ∧ ((cOk 8 w25 a0) ∧ ((cOq 11 w25 w14) ∧ ((cOq 7 w25 (cQ w25 a0 0)) ∧ ((S_Co_field cs lim w25 ((cQ w25 a0 0).getD 0) (cI w25 (w14.getD 0) 1) 1) ∧ (mbind (F_Co_field cs w25 ((cQ w25 a0 0).getD 0) (cI w25 (w14.getD 0) 1) 1) (fun w31 => (cOq 10 w25 (cQ w25 a0 10)) ∧ ((S_Fr_give cs lim w25 ((cQ w25 a0 10).getD 0) w31 w7.1) ∧ (mbind (F_Fr_give cs w25 ((cQ w25 a0 10).getD 0) w31 w7.1) (fun w34 => True)))))))))))))) else (True))))) else ((cOk 8 w11.2 a0) ∧ ((S_Ma_resume cs lim w11.2 a0 x1 w14 w7.1) ∧ (mbind (F_Ma_resume cs w11.2 a0 x1 w14 w7.1) (fun w37 => True))))))))))))))))))))
set_option maxRecDepth 100000 in
set_option maxHeartbeats 4000000 in
theorem cc_Ma_apply (l : Launch) (hf : l.flags = pinnedFlags ++ [noTraceFlag]) (D : va_G) (cs : Nat → ClassId) (B : Nat) (dE : Nat × Nat) (lim : Nat × Nat) (M : gMem) (a0 : Nat) (x1 : Option Nat) (x2 : Int32) (hS : S_Ma_apply cs lim dE M a0 x1 x2) : cMet l y_Ma_apply (Cond.code y_Ma_apply c_Ma_apply 5 none) (11) (236) D cs B dE (gA B) lim [.ref a0, va_rf x1, .int x2] M (fun x M' => x = .inl none ∧ M' = (F_Ma_apply cs dE M a0 x1 x2)) := by
  refine cMet.ofW (by decide) (by cases x1 <;> exact Nat.le_of_ble_eq_true rfl) (lv0 := [(0, .ref a0), (1, va_rf x1), (2, .int x2)]) (by cases x1 <;> rfl) ?_
  intro p e s m args below meth c C hE hR0 hle hr hlocks hex hn
  generalize hF : F_Ma_apply cs dE M a0 x1 x2 = Fv
  unfold F_Ma_apply at hF
  unfold S_Ma_apply at hS
  refine g_aload_n C d_Ma_apply_0 rfl ?_
  refine q_aload_n (r := x1) C d_Ma_apply_1 rfl ?_
  refine g_iload_n C d_Ma_apply_2 rfl ?_
  refine GW.more (A' := gA B) (fun _ h => h.elim) ?_
  obtain ⟨ho1, hS⟩ := hS
  obtain ⟨hs2, hS⟩ := hS
  refine c_call (av := [.ref a0, va_rf x1, .int x2]) (rest := []) C hE (fun _ h => h) ⟨rfl, rfl⟩ hle (cc_Ma_takesFuel l hf D cs B dE lim _ a0 x1 x2 hs2) (fun _ h => h) kd_Ma_takesFuel ki_Ma (Nat.le_of_ble_eq_true rfl) (Nat.le_of_ble_eq_true rfl) d_Ma_apply_3 (Nat.le_of_ble_eq_true rfl) (c_fV (n := 2) (ci := 8) C hE.1 rfl km_Ma_173 kv_Ma_takesFuel kl_Ma_takesFuel kd_Ma_takesFuel ⟨by decide, by decide, by decide⟩ rfl rfl d_Ma_apply_3 ho1) (fun v1 M1 hv hle => ?_) (fun E1 M1 hv hle => ?_)
  · rw [mbind_eq] at hF hS
    obtain ⟨hx, hM1⟩ := hv
    have hM2 := hM1.symm
    subst hM2
    generalize hq_w3 : F_Ma_takesFuel cs M a0 x1 x2 = w3 at hF hS hx hle ⊢
    cases hx
    refine GW.eqs (st' := [.int w3.1]) rfl ?_
    refine g_if_ne C 10 d_Ma_apply_6 (by decide) (fun hc4 => ?_) (fun hc4 => ?_)
    · rw [if_neg hc4] at hF hS
      refine q_aload_n (r := x1) C d_Ma_apply_10 rfl ?_
      obtain ⟨ho5, hS⟩ := hS
      refine GW.known1 (a := x1.getD 0) (cOq.at ho5).1 ?_
      obtain ⟨hs6, hS⟩ := hS
      refine c_call (av := [.ref (x1.getD 0)]) (rest := []) C hE (fun _ h => h) ⟨rfl, rfl⟩ hle (cc_Fr_pop l hf D cs B dE lim _ (x1.getD 0)  hs6) (fun _ h => h) kd_Fr_pop ki_Fr (Nat.le_of_ble_eq_true rfl) (Nat.le_of_ble_eq_true rfl) d_Ma_apply_11 (Nat.le_of_ble_eq_true rfl) (c_fV (n := 0) (ci := 10) C hE.1 rfl km_Ma_109 kv_Fr_pop kl_Fr_pop kd_Fr_pop ⟨by decide, by decide, by decide⟩ rfl rfl d_Ma_apply_11 (cOq.at ho5).2) (fun v1 M1 hv hle => ?_) (fun E1 M1 hv hle => ?_)
      · rw [mbind_eq] at hF hS
        obtain ⟨hx, hM1⟩ := hv
        have hM2 := hM1.symm
        subst hM2
        generalize hq_w7 : F_Fr_pop cs w3.2 (x1.getD 0)  = w7 at hF hS hx hle ⊢
        cases hx
        refine GW.eqs (st' := [.int w7.1]) rfl ?_
        refine g_istore_n (lv' := [(3, .int w7.1), (0, .ref a0), (1, va_rf x1), (2, .int x2)]) C d_Ma_apply_14 (by decide) rfl ?_
        refine g_aload_n C d_Ma_apply_15 rfl ?_
        obtain ⟨ho8, hS⟩ := hS
        refine c_getq C hE.1 (ci := 8) i_Ma rfl 1 (by decide) (by decide) (by decide) kf_Ma_12 d_Ma_apply_16 ho8 ?_
        refine q_aload_n (r := x1) C d_Ma_apply_19 rfl ?_
        obtain ⟨ho9, hS⟩ := hS
        refine GW.known1 (a := x1.getD 0) (cOq.at ho9).1 ?_
        obtain ⟨hs10, hS⟩ := hS
        refine c_call (av := [.ref (x1.getD 0)]) (rest := [va_rf (cQ w7.2 a0 1)]) C hE (fun _ h => h) ⟨rfl, rfl⟩ hle (cc_Fr_pop l hf D cs B dE lim _ (x1.getD 0)  hs10) (fun _ h => h) kd_Fr_pop ki_Fr (Nat.le_of_ble_eq_true rfl) (Nat.le_of_ble_eq_true rfl) d_Ma_apply_20 (by simp only [List.map_cons, List.map_nil, rf_cat, List.sum_cons, List.sum_nil]; exact Nat.le_of_ble_eq_true rfl) (c_fV (n := 0) (ci := 10) C hE.1 rfl km_Ma_109 kv_Fr_pop kl_Fr_pop kd_Fr_pop ⟨by decide, by decide, by decide⟩ rfl rfl d_Ma_apply_20 (cOq.at ho9).2) (fun v1 M1 hv hle => ?_) (fun E1 M1 hv hle => ?_)
        · rw [mbind_eq] at hF hS
          obtain ⟨hx, hM1⟩ := hv
          have hM2 := hM1.symm
          subst hM2
          generalize hq_w11 : F_Fr_pop cs w7.2 (x1.getD 0)  = w11 at hF hS hx hle ⊢
          cases hx
          refine GW.eqs (st' := [.int w11.1, va_rf (cQ w7.2 a0 1)]) rfl ?_
          obtain ⟨ho12, hS⟩ := hS
          refine GW.known2 (a := (cQ w7.2 a0 1).getD 0) (cOq.at ho12).1 ?_
          obtain ⟨hs13, hS⟩ := hS
          refine c_call (av := [.ref ((cQ w7.2 a0 1).getD 0), .int w11.1]) (rest := []) C hE (fun _ h => h) ⟨rfl, rfl⟩ hle (cc_St_thingAt l hf D cs B dE lim _ ((cQ w7.2 a0 1).getD 0) w11.1 hs13) (fun _ h => h.elim) kd_St_thingAt ki_St (Nat.le_of_ble_eq_true rfl) (Nat.le_of_ble_eq_true rfl) d_Ma_apply_23 (Nat.le_of_ble_eq_true rfl) (c_fV (n := 1) (ci := 9) C hE.1 rfl km_Ma_147 kv_St_thingAt kl_St_thingAt kd_St_thingAt ⟨by decide, by decide, by decide⟩ rfl rfl d_Ma_apply_23 (cOq.at ho12).2) (fun v1 M1 hv hle => ?_) (fun E1 M1 hv hle => ?_)
          · rw [mbind_eq] at hF hS
            obtain ⟨hx, hM1⟩ := hv
            have hM2 := hM1.symm
            subst hM2
            generalize hq_w14 : F_St_thingAt cs dE w11.2 ((cQ w7.2 a0 1).getD 0) w11.1 = w14 at hF hS hx hle ⊢
            cases hx
            refine GW.eqs (st' := [va_rf w14]) rfl ?_
            refine q_astore (r := w14) (lv' := [(4, va_rf w14), (3, .int w7.1), (0, .ref a0), (1, va_rf x1), (2, .int x2)]) C d_Ma_apply_26 (by decide) rfl ?_
            refine q_aload (r := w14) C d_Ma_apply_28 rfl ?_
            refine q_ifnonnull C 34 d_Ma_apply_30 (by decide) (fun hc15 => ?_) (fun hc15 => ?_)
            · rw [if_neg hc15] at hF hS
              refine q_aload (r := w14) C d_Ma_apply_34 rfl ?_
              obtain ⟨ho16, hS⟩ := hS
              refine GW.known1 (a := w14.getD 0) (cOq.at ho16).1 ?_
              refine c_getiN C hE.1 (ci := 11) i_Th rfl 2 (by decide) (by decide) (by decide) (gE_fN hE kf_Ma_177) d_Ma_apply_36 (cOq.at ho16).2 ?_
              refine g_if_eq C 53 d_Ma_apply_39 (by decide) (fun hc17 => ?_) (fun hc17 => ?_)
              · rw [if_pos hc17] at hF hS
                refine g_aload_n C d_Ma_apply_53 rfl ?_
                refine g_iconst (v := 1) C d_Ma_apply_54 (by decide) ?_
                obtain ⟨ho18, hS⟩ := hS
                obtain ⟨hs19, hS⟩ := hS
                refine c_call (av := [.ref a0, .int 1]) (rest := []) C hE (fun _ h => h) ⟨rfl, rfl⟩ hle (cc_Ma_isDeep l hf D cs B dE lim _ a0 1 hs19) (fun _ h => h) kd_Ma_isDeep ki_Ma (Nat.le_of_ble_eq_true rfl) (Nat.le_of_ble_eq_true rfl) d_Ma_apply_55 (Nat.le_of_ble_eq_true rfl) (c_fV (n := 1) (ci := 8) C hE.1 rfl km_Ma_161 kv_Ma_isDeep kl_Ma_isDeep kd_Ma_isDeep ⟨by decide, by decide, by decide⟩ rfl rfl d_Ma_apply_55 ho18) (fun v1 M1 hv hle => ?_) (fun E1 M1 hv hle => ?_)
                · rw [mbind_eq] at hF hS
                  obtain ⟨hx, hM1⟩ := hv
                  have hM2 := hM1.symm
                  subst hM2
                  generalize hq_w20 : F_Ma_isDeep cs w11.2 a0 1 = w20 at hF hS hx hle ⊢
                  cases hx
                  refine GW.eqs (st' := [.int w20.1]) rfl ?_
                  refine g_if_ne C 96 d_Ma_apply_58 (by decide) (fun hc21 => ?_) (fun hc21 => ?_)
                  · rw [if_neg hc21] at hF hS
                    exact c_vret (M := w20.2) C hr hlocks hle d_Ma_apply_96 (by rw [← hF]; exact ⟨rfl, rfl⟩)
                  · rw [if_pos hc21] at hF hS
                    refine g_aload_n C d_Ma_apply_61 rfl ?_
                    refine q_aload_n (r := x1) C d_Ma_apply_62 rfl ?_
                    refine q_aload (r := w14) C d_Ma_apply_63 rfl ?_
                    refine q_aload (r := w14) C d_Ma_apply_65 rfl ?_
                    obtain ⟨ho22, hS⟩ := hS
                    refine GW.known1 (a := w14.getD 0) (cOq.at ho22).1 ?_
                    refine c_getiN C hE.1 (ci := 11) i_Th rfl 1 (by decide) (by decide) (by decide) (gE_fN hE kf_Ma_172) d_Ma_apply_67 (cOq.at ho22).2 ?_
                    refine g_iconst (v := 1) C d_Ma_apply_70 (by decide) ?_
                    refine g_iadd C d_Ma_apply_71 ?_
                    obtain ⟨ho23, hS⟩ := hS
                    obtain ⟨hs24, hS⟩ := hS
                    refine c_call (av := [.ref a0, va_rf x1, va_rf w14, .int ((cI w20.2 (w14.getD 0) 1) + 1)]) (rest := []) C hE (fun _ h => h) ⟨rfl, rfl⟩ hle (cc_Ma_enter l hf D cs B dE lim _ a0 x1 w14 ((cI w20.2 (w14.getD 0) 1) + 1) hs24) (fun _ h => h) kd_Ma_enter ki_Ma (Nat.le_of_ble_eq_true rfl) (Nat.le_of_ble_eq_true rfl) d_Ma_apply_72 (Nat.le_of_ble_eq_true rfl) (c_fV (n := 3) (ci := 8) C hE.1 rfl km_Ma_164 kv_Ma_enter kl_Ma_enter kd_Ma_enter ⟨by decide, by decide, by decide⟩ rfl rfl d_Ma_apply_72 ho23) (fun v1 M1 hv hle => ?_) (fun E1 M1 hv hle => ?_)
                    · rw [mbind_eq] at hF hS
                      obtain ⟨hx, hM1⟩ := hv
                      have hM2 := hM1.symm
                      subst hM2
                      generalize hq_w25 : F_Ma_enter cs dE w20.2 a0 x1 w14 ((cI w20.2 (w14.getD 0) 1) + 1) = w25 at hF hS hx hle ⊢
                      cases hx
                      refine GW.eqs (st' := []) rfl ?_
                      refine g_aload_n C d_Ma_apply_75 rfl ?_
                      obtain ⟨ho26, hS⟩ := hS
                      refine c_getq C hE.1 (ci := 8) i_Ma rfl 10 (by decide) (by decide) (by decide) kf_Ma_41 d_Ma_apply_76 ho26 ?_
                      refine g_aload_n C d_Ma_apply_79 rfl ?_
                      obtain ⟨ho27, hS⟩ := hS
                      refine c_getq C hE.1 (ci := 8) i_Ma rfl 0 (by decide) (by decide) (by decide) kf_Ma_18 d_Ma_apply_80 ho27 ?_
                      refine q_aload (r := w14) C d_Ma_apply_83 rfl ?_
                      obtain ⟨ho28, hS⟩ := hS
                      refine GW.known1 (a := w14.getD 0) (cOq.at ho28).1 ?_
                      refine c_getiN C hE.1 (ci := 11) i_Th rfl 1 (by decide) (by decide) (by decide) (gE_fN hE kf_Ma_172) d_Ma_apply_85 (cOq.at ho28).2 ?_
                      refine g_iconst (v := 1) C d_Ma_apply_88 (by decide) ?_
                      obtain ⟨ho29, hS⟩ := hS
                      refine GW.known3 (a := (cQ w25 a0 0).getD 0) (cOq.at ho29).1 ?_
                      obtain ⟨hs30, hS⟩ := hS
                      refine c_call (av := [.ref ((cQ w25 a0 0).getD 0), .int (cI w25 (w14.getD 0) 1), .int 1]) (rest := [va_rf (cQ w25 a0 10)]) C hE (fun _ h => h) ⟨rfl, rfl⟩ hle (cc_Co_field l hf D cs B dE lim _ ((cQ w25 a0 0).getD 0) (cI w25 (w14.getD 0) 1) 1 hs30) (fun _ h => h.elim) kd_Co_field ki_Co (Nat.le_of_ble_eq_true rfl) (Nat.le_of_ble_eq_true rfl) d_Ma_apply_89 (by simp only [List.map_cons, List.map_nil, rf_cat, List.sum_cons, List.sum_nil]; exact Nat.le_of_ble_eq_true rfl) (c_fV (n := 2) (ci := 7) C hE.1 rfl km_Ma_86 kv_Co_field kl_Co_field kd_Co_field ⟨by decide, by decide, by decide⟩ rfl rfl d_Ma_apply_89 (cOq.at ho29).2) (fun v1 M1 hv hle => ?_) (fun E1 M1 hv hle => ?_)
                      · rw [mbind_eq] at hF hS
                        obtain ⟨hx, hM1⟩ := hv
                        have hM2 := hM1.symm
                        subst hM2
                        generalize hq_w31 : F_Co_field cs w25 ((cQ w25 a0 0).getD 0) (cI w25 (w14.getD 0) 1) 1 = w31 at hF hS hx hle ⊢
                        cases hx
                        refine GW.eqs (st' := [.int w31, va_rf (cQ w25 a0 10)]) rfl ?_
                        refine g_iload_n C d_Ma_apply_92 rfl ?_
                        obtain ⟨ho32, hS⟩ := hS
                        refine GW.known3 (a := (cQ w25 a0 10).getD 0) (cOq.at ho32).1 ?_
                        obtain ⟨hs33, hS⟩ := hS
                        refine c_call (av := [.ref ((cQ w25 a0 10).getD 0), .int w31, .int w7.1]) (rest := []) C hE (fun _ h => h) ⟨rfl, rfl⟩ hle (cc_Fr_give l hf D cs B dE lim _ ((cQ w25 a0 10).getD 0) w31 w7.1 hs33) (fun _ h => h) kd_Fr_give ki_Fr (Nat.le_of_ble_eq_true rfl) (Nat.le_of_ble_eq_true rfl) d_Ma_apply_93 (Nat.le_of_ble_eq_true rfl) (c_fV (n := 2) (ci := 10) C hE.1 rfl km_Ma_136 kv_Fr_give kl_Fr_give kd_Fr_give ⟨by decide, by decide, by decide⟩ rfl rfl d_Ma_apply_93 (cOq.at ho32).2) (fun v1 M1 hv hle => ?_) (fun E1 M1 hv hle => ?_)
                        · rw [mbind_eq] at hF hS
                          obtain ⟨hx, hM1⟩ := hv
                          have hM2 := hM1.symm
                          subst hM2
                          generalize hq_w34 : F_Fr_give cs w25 ((cQ w25 a0 10).getD 0) w31 w7.1 = w34 at hF hS hx hle ⊢
                          cases hx
                          refine GW.eqs (st' := []) rfl ?_
                          exact c_vret (M := w34) C hr hlocks hle d_Ma_apply_96 (by rw [← hF]; exact ⟨rfl, rfl⟩)
                        · cases hv.1
                      · cases hv.1
                    · cases hv.1
                · cases hv.1
              · rw [if_neg hc17] at hF hS
                refine g_aload_n C d_Ma_apply_42 rfl ?_
                refine q_aload_n (r := x1) C d_Ma_apply_43 rfl ?_
                refine q_aload (r := w14) C d_Ma_apply_44 rfl ?_
                refine g_iload_n C d_Ma_apply_46 rfl ?_
                obtain ⟨ho35, hS⟩ := hS
                obtain ⟨hs36, hS⟩ := hS
                refine c_call (av := [.ref a0, va_rf x1, va_rf w14, .int w7.1]) (rest := []) C hE (fun _ h => h) ⟨rfl, rfl⟩ hle (cc_Ma_resume l hf D cs B dE lim _ a0 x1 w14 w7.1 hs36) (fun _ h => h) kd_Ma_resume ki_Ma (Nat.le_of_ble_eq_true rfl) (Nat.le_of_ble_eq_true rfl) d_Ma_apply_47 (Nat.le_of_ble_eq_true rfl) (c_fV (n := 3) (ci := 8) C hE.1 rfl km_Ma_180 kv_Ma_resume kl_Ma_resume kd_Ma_resume ⟨by decide, by decide, by decide⟩ rfl rfl d_Ma_apply_47 ho35) (fun v1 M1 hv hle => ?_) (fun E1 M1 hv hle => ?_)
                · rw [mbind_eq] at hF hS
                  obtain ⟨hx, hM1⟩ := hv
                  have hM2 := hM1.symm
                  subst hM2
                  generalize hq_w37 : F_Ma_resume cs w11.2 a0 x1 w14 w7.1 = w37 at hF hS hx hle ⊢
                  cases hx
                  refine GW.eqs (st' := []) rfl ?_
                  refine g_goto C 96 d_Ma_apply_50 (by decide) ?_
                  exact c_vret (M := w37) C hr hlocks hle d_Ma_apply_96 (by rw [← hF]; exact ⟨rfl, rfl⟩)
                · cases hv.1
            · rw [if_pos hc15] at hF hS
              exact c_vret (M := w11.2) C hr hlocks hle d_Ma_apply_33 (by rw [← hF]; exact ⟨rfl, rfl⟩)
          · cases hv.1
        · cases hv.1
      · cases hv.1
    · rw [if_pos hc4] at hF hS
      exact c_vret (M := w3.2) C hr hlocks hle d_Ma_apply_9 (by rw [← hF]; exact ⟨rfl, rfl⟩)
  · cases hv.1
def F_Ma_holdFrames (cs : Nat → ClassId) (dE : Nat × Nat) (M : gMem) (a0 : Nat) (x1 : Option Nat) (x2 : Int32) : Int32 × gMem := mbind (F_St_takeThing cs dE (cP 8 (cP 8 M a0 7 (.int ((cI M a0 7) + (1 + x2)))) a0 8 (.int ((cI (cP 8 M a0 7 (.int ((cI M a0 7) + (1 + x2)))) a0 8) - x2))) ((cQ (cP 8 (cP 8 M a0 7 (.int ((cI M a0 7) + (1 + x2)))) a0 8 (.int ((cI (cP 8 M a0 7 (.int ((cI M a0 7) + (1 + x2)))) a0 8) - x2))) a0 1).getD 0) ) (fun w8 => mbind (F_St_thingAt cs dE w8.2 ((cQ w8.2 a0 1).getD 0) w8.1) (fun w12 => if w12 = none then ((w8.1, cP 10 w8.2 (x1.getD 0) 4 (va_rf (none : Option Nat)))) else (mbind (F_Th_hold cs w8.2 (w12.getD 0) (cQ w8.2 a0 10) x1 x2) (fun w18 => (w8.1, cP 10 w18 (x1.getD 0) 4 (va_rf (none : Option Nat)))))))
def S_Ma_holdFrames (cs : Nat → ClassId) (lim : Nat × Nat) (dE : Nat × Nat) (M : gMem) (a0 : Nat) (x1 : Option Nat) (x2 : Int32) : Prop := (cOk 8 M a0) ∧ ((cOk 8 M a0) ∧ ((cOk 8 (cP 8 M a0 7 (.int ((cI M a0 7) + (1 + x2)))) a0) ∧ ((cOk 8 (cP 8 M a0 7 (.int ((cI M a0 7) + (1 + x2)))) a0) ∧ ((cOk 8 (cP 8 (cP 8 M a0 7 (.int ((cI M a0 7) + (1 + x2)))) a0 8 (.int ((cI (cP 8 M a0 7 (.int ((cI M a0 7) + (1 + x2)))) a0 8) - x2))) a0) ∧ ((cOq 9 (cP 8 (cP 8 M a0 7 (.int ((cI M a0 7) + (1 + x2)))) a0 8 (.int ((cI (cP 8 M a0 7 (.int ((cI M a0 7) + (1 + x2)))) a0 8) - x2))) (cQ (cP 8 (cP 8 M a0 7 (.int ((cI M a0 7) + (1 + x2)))) a0 8 (.int ((cI (cP 8 M a0 7 (.int ((cI M a0 7) + (1 + x2)))) a0 8) - x2))) a0 1)) ∧ ((S_St_takeThing cs lim dE (cP 8 (cP 8 M a0 7 (.int ((cI M a0 7) + (1 + x2)))) a0 8 (.int ((cI (cP 8 M a0 7 (.int ((cI M a0 7) + (1 + x2)))) a0 8) - x2))) ((cQ (cP 8 (cP 8 M a0 7 (.int ((cI M a0 7) + (1 + x2)))) a0 8 (.int ((cI (cP 8 M a0 7 (.int ((cI M a0 7) + (1 + x2)))) a0 8) - x2))) a0 1).getD 0) ) ∧ (mbind (F_St_takeThing cs dE (cP 8 (cP 8 M a0 7 (.int ((cI M a0 7) + (1 + x2)))) a0 8 (.int ((cI (cP 8 M a0 7 (.int ((cI M a0 7) + (1 + x2)))) a0 8) - x2))) ((cQ (cP 8 (cP 8 M a0 7 (.int ((cI M a0 7) + (1 + x2)))) a0 8 (.int ((cI (cP 8 M a0 7 (.int ((cI M a0 7) + (1 + x2)))) a0 8) - x2))) a0 1).getD 0) ) (fun w8 => (cOk 8 w8.2 a0) ∧ ((cOq 9 w8.2 (cQ w8.2 a0 1)) ∧ ((S_St_thingAt cs lim dE w8.2 ((cQ w8.2 a0 1).getD 0) w8.1) ∧ (mbind (F_St_thingAt cs dE w8.2 ((cQ w8.2 a0 1).getD 0) w8.1) (fun w12 => if w12 = none then ((cOq 10 w8.2 x1) ∧ (True)) else ((cOk 8 w8.2 a0) ∧ ((cOq 11 w8.2 w12) ∧ ((S_Th_hold cs lim w8.2 (w12.getD 0) (cQ w8.2 a0 10) x1 x2) ∧ (mbind (F_Th_hold cs w8.2 (w12.getD 0) (cQ w8.2 a0 10) x1 x2) (fun w18 => (cOq 10 w18 x1) ∧ (True))))))))))))))))))
set_option maxRecDepth 100000 in
set_option maxHeartbeats 4000000 in
theorem cc_Ma_holdFrames (l : Launch) (hf : l.flags = pinnedFlags ++ [noTraceFlag]) (D : va_G) (cs : Nat → ClassId) (B : Nat) (dE : Nat × Nat) (lim : Nat × Nat) (M : gMem) (a0 : Nat) (x1 : Option Nat) (x2 : Int32) (hS : S_Ma_holdFrames cs lim dE M a0 x1 x2) : cMet l y_Ma_holdFrames (Cond.code y_Ma_holdFrames c_Ma_holdFrames 5 (some .int)) (10) (211) D cs B dE (gA B) lim [.ref a0, va_rf x1, .int x2] M (fun x M' => x = .inl (some (.int ((F_Ma_holdFrames cs dE M a0 x1 x2).1))) ∧ M' = (F_Ma_holdFrames cs dE M a0 x1 x2).2) := by
  refine cMet.ofW (by decide) (by cases x1 <;> exact Nat.le_of_ble_eq_true rfl) (lv0 := [(0, .ref a0), (1, va_rf x1), (2, .int x2)]) (by cases x1 <;> rfl) ?_
  intro p e s m args below meth c C hE hR0 hle hr hlocks hex hn
  generalize hF : F_Ma_holdFrames cs dE M a0 x1 x2 = Fv
  unfold F_Ma_holdFrames at hF
  unfold S_Ma_holdFrames at hS
  refine g_aload_n C d_Ma_holdFrames_0 rfl ?_
  refine g_dup C d_Ma_holdFrames_1 rfl ?_
  obtain ⟨ho1, hS⟩ := hS
  refine c_geti C hE.1 (ci := 8) i_Ma rfl 7 (by decide) (by decide) (by decide) kf_Ma_80 d_Ma_holdFrames_2 ho1 ?_
  refine g_iconst (v := 1) C d_Ma_holdFrames_5 (by decide) ?_
  refine g_iload_n C d_Ma_holdFrames_6 rfl ?_
  refine g_iadd C d_Ma_holdFrames_7 ?_
  refine g_iadd C d_Ma_holdFrames_8 ?_
  refine GW.more (A' := gA B) (fun _ h => h.elim) ?_
  obtain ⟨ho2, hS⟩ := hS
  refine k_put (M0 := M) (M := M) C hE.1 (ci := 8) i_Ma rfl 7 (by decide) (by decide) kf_Ma_80 t_Ma t_Ma_ok n_Ma rfl (nf_i _) d_Ma_holdFrames_9 ho2 ?_
  replace hle := cLe.cP (ci := 8) (a := a0) (k := 7) (v := .int ((cI M a0 7) + (1 + x2))) hle
  refine g_aload_n C d_Ma_holdFrames_12 rfl ?_
  refine g_dup C d_Ma_holdFrames_13 rfl ?_
  obtain ⟨ho3, hS⟩ := hS
  refine c_geti C hE.1 (ci := 8) i_Ma rfl 8 (by decide) (by decide) (by decide) kf_Ma_83 d_Ma_holdFrames_14 ho3 ?_
  refine g_iload_n C d_Ma_holdFrames_17 rfl ?_
  refine g_isub C d_Ma_holdFrames_18 ?_
  obtain ⟨ho4, hS⟩ := hS
  refine k_put (M0 := M) (M := cP 8 M a0 7 (.int ((cI M a0 7) + (1 + x2)))) C hE.1 (ci := 8) i_Ma rfl 8 (by decide) (by decide) kf_Ma_83 t_Ma t_Ma_ok n_Ma rfl (nf_i _) d_Ma_holdFrames_19 ho4 ?_
  replace hle := cLe.cP (ci := 8) (a := a0) (k := 8) (v := .int ((cI (cP 8 M a0 7 (.int ((cI M a0 7) + (1 + x2)))) a0 8) - x2)) hle
  refine g_aload_n C d_Ma_holdFrames_22 rfl ?_
  obtain ⟨ho5, hS⟩ := hS
  refine c_getq C hE.1 (ci := 8) i_Ma rfl 1 (by decide) (by decide) (by decide) kf_Ma_12 d_Ma_holdFrames_23 ho5 ?_
  obtain ⟨ho6, hS⟩ := hS
  refine GW.known1 (a := (cQ (cP 8 (cP 8 M a0 7 (.int ((cI M a0 7) + (1 + x2)))) a0 8 (.int ((cI (cP 8 M a0 7 (.int ((cI M a0 7) + (1 + x2)))) a0 8) - x2))) a0 1).getD 0) (cOq.at ho6).1 ?_
  obtain ⟨hs7, hS⟩ := hS
  refine c_call (av := [.ref ((cQ (cP 8 (cP 8 M a0 7 (.int ((cI M a0 7) + (1 + x2)))) a0 8 (.int ((cI (cP 8 M a0 7 (.int ((cI M a0 7) + (1 + x2)))) a0 8) - x2))) a0 1).getD 0)]) (rest := []) C hE (fun _ h => h) ⟨rfl, rfl⟩ hle (cc_St_takeThing l hf D cs B dE lim _ ((cQ (cP 8 (cP 8 M a0 7 (.int ((cI M a0 7) + (1 + x2)))) a0 8 (.int ((cI (cP 8 M a0 7 (.int ((cI M a0 7) + (1 + x2)))) a0 8) - x2))) a0 1).getD 0)  hs7) (fun _ h => h) kd_St_takeThing ki_St (Nat.le_of_ble_eq_true rfl) (Nat.le_of_ble_eq_true rfl) d_Ma_holdFrames_26 (Nat.le_of_ble_eq_true rfl) (c_fV (n := 0) (ci := 9) C hE.1 rfl km_Ma_144 kv_St_takeThing kl_St_takeThing kd_St_takeThing ⟨by decide, by decide, by decide⟩ rfl rfl d_Ma_holdFrames_26 (cOq.at ho6).2) (fun v1 M1 hv hle => ?_) (fun E1 M1 hv hle => ?_)
  · rw [mbind_eq] at hF hS
    obtain ⟨hx, hM1⟩ := hv
    have hM2 := hM1.symm
    subst hM2
    generalize hq_w8 : F_St_takeThing cs dE (cP 8 (cP 8 M a0 7 (.int ((cI M a0 7) + (1 + x2)))) a0 8 (.int ((cI (cP 8 M a0 7 (.int ((cI M a0 7) + (1 + x2)))) a0 8) - x2))) ((cQ (cP 8 (cP 8 M a0 7 (.int ((cI M a0 7) + (1 + x2)))) a0 8 (.int ((cI (cP 8 M a0 7 (.int ((cI M a0 7) + (1 + x2)))) a0 8) - x2))) a0 1).getD 0)  = w8 at hF hS hx hle ⊢
    cases hx
    refine GW.eqs (st' := [.int w8.1]) rfl ?_
    refine g_istore_n (lv' := [(3, .int w8.1), (0, .ref a0), (1, va_rf x1), (2, .int x2)]) C d_Ma_holdFrames_29 (by decide) rfl ?_
    refine g_aload_n C d_Ma_holdFrames_30 rfl ?_
    obtain ⟨ho9, hS⟩ := hS
    refine c_getq C hE.1 (ci := 8) i_Ma rfl 1 (by decide) (by decide) (by decide) kf_Ma_12 d_Ma_holdFrames_31 ho9 ?_
    refine g_iload_n C d_Ma_holdFrames_34 rfl ?_
    obtain ⟨ho10, hS⟩ := hS
    refine GW.known2 (a := (cQ w8.2 a0 1).getD 0) (cOq.at ho10).1 ?_
    obtain ⟨hs11, hS⟩ := hS
    refine c_call (av := [.ref ((cQ w8.2 a0 1).getD 0), .int w8.1]) (rest := []) C hE (fun _ h => h) ⟨rfl, rfl⟩ hle (cc_St_thingAt l hf D cs B dE lim _ ((cQ w8.2 a0 1).getD 0) w8.1 hs11) (fun _ h => h.elim) kd_St_thingAt ki_St (Nat.le_of_ble_eq_true rfl) (Nat.le_of_ble_eq_true rfl) d_Ma_holdFrames_35 (Nat.le_of_ble_eq_true rfl) (c_fV (n := 1) (ci := 9) C hE.1 rfl km_Ma_147 kv_St_thingAt kl_St_thingAt kd_St_thingAt ⟨by decide, by decide, by decide⟩ rfl rfl d_Ma_holdFrames_35 (cOq.at ho10).2) (fun v1 M1 hv hle => ?_) (fun E1 M1 hv hle => ?_)
    · rw [mbind_eq] at hF hS
      obtain ⟨hx, hM1⟩ := hv
      have hM2 := hM1.symm
      subst hM2
      generalize hq_w12 : F_St_thingAt cs dE w8.2 ((cQ w8.2 a0 1).getD 0) w8.1 = w12 at hF hS hx hle ⊢
      cases hx
      refine GW.eqs (st' := [va_rf w12]) rfl ?_
      refine q_astore (r := w12) (lv' := [(4, va_rf w12), (3, .int w8.1), (0, .ref a0), (1, va_rf x1), (2, .int x2)]) C d_Ma_holdFrames_38 (by decide) rfl ?_
      refine q_aload (r := w12) C d_Ma_holdFrames_40 rfl ?_
      refine q_ifnull C 56 d_Ma_holdFrames_42 (by decide) (fun hc13 => ?_) (fun hc13 => ?_)
      · rw [if_pos hc13] at hF hS
        refine q_aload_n (r := x1) C d_Ma_holdFrames_56 rfl ?_
        refine g_null C d_Ma_holdFrames_57 ?_
        refine GW.eqs (st' := [va_rf (none : Option Nat), va_rf x1]) rfl ?_
        obtain ⟨ho14, hS⟩ := hS
        refine GW.known2 (a := x1.getD 0) (cOq.at ho14).1 ?_
        refine k_putN (M0 := M) (M := w8.2) C hE.1 (ci := 10) i_Fr rfl 4 (by decide) (by decide) (gE_fN hE kf_Ma_51) t_Fr t_Fr_ok n_Fr rfl (nf_q _ (Or.inl ⟨_, rfl⟩) _) d_Ma_holdFrames_58 (cOq.at ho14).2 ?_
        replace hle := cLe.cP (ci := 10) (a := x1.getD 0) (k := 4) (v := va_rf (none : Option Nat)) hle
        refine g_iload_n C d_Ma_holdFrames_61 rfl ?_
        exact c_iret (M := cP 10 w8.2 (x1.getD 0) 4 (va_rf (none : Option Nat))) C hr hlocks hle d_Ma_holdFrames_62 (by rw [← hF]; exact ⟨rfl, rfl⟩)
      · rw [if_neg hc13] at hF hS
        refine q_aload (r := w12) C d_Ma_holdFrames_45 rfl ?_
        refine g_aload_n C d_Ma_holdFrames_47 rfl ?_
        obtain ⟨ho15, hS⟩ := hS
        refine c_getq C hE.1 (ci := 8) i_Ma rfl 10 (by decide) (by decide) (by decide) kf_Ma_41 d_Ma_holdFrames_48 ho15 ?_
        refine q_aload_n (r := x1) C d_Ma_holdFrames_51 rfl ?_
        refine g_iload_n C d_Ma_holdFrames_52 rfl ?_
        obtain ⟨ho16, hS⟩ := hS
        refine GW.known4 (a := w12.getD 0) (cOq.at ho16).1 ?_
        obtain ⟨hs17, hS⟩ := hS
        refine c_call (av := [.ref (w12.getD 0), va_rf (cQ w8.2 a0 10), va_rf x1, .int x2]) (rest := []) C hE (fun _ h => h) ⟨rfl, rfl⟩ hle (cc_Th_hold l hf D cs B dE lim _ (w12.getD 0) (cQ w8.2 a0 10) x1 x2 hs17) (fun _ h => h) kd_Th_hold ki_Th (Nat.le_of_ble_eq_true rfl) (Nat.le_of_ble_eq_true rfl) d_Ma_holdFrames_53 (Nat.le_of_ble_eq_true rfl) (c_fV (n := 3) (ci := 11) C hE.1 rfl km_Ma_203 kv_Th_hold kl_Th_hold kd_Th_hold ⟨by decide, by decide, by decide⟩ rfl rfl d_Ma_holdFrames_53 (cOq.at ho16).2) (fun v1 M1 hv hle => ?_) (fun E1 M1 hv hle => ?_)
        · rw [mbind_eq] at hF hS
          obtain ⟨hx, hM1⟩ := hv
          have hM2 := hM1.symm
          subst hM2
          generalize hq_w18 : F_Th_hold cs w8.2 (w12.getD 0) (cQ w8.2 a0 10) x1 x2 = w18 at hF hS hx hle ⊢
          cases hx
          refine GW.eqs (st' := []) rfl ?_
          refine q_aload_n (r := x1) C d_Ma_holdFrames_56 rfl ?_
          refine g_null C d_Ma_holdFrames_57 ?_
          refine GW.eqs (st' := [va_rf (none : Option Nat), va_rf x1]) rfl ?_
          obtain ⟨ho19, hS⟩ := hS
          refine GW.known2 (a := x1.getD 0) (cOq.at ho19).1 ?_
          refine k_putN (M0 := M) (M := w18) C hE.1 (ci := 10) i_Fr rfl 4 (by decide) (by decide) (gE_fN hE kf_Ma_51) t_Fr t_Fr_ok n_Fr rfl (nf_q _ (Or.inl ⟨_, rfl⟩) _) d_Ma_holdFrames_58 (cOq.at ho19).2 ?_
          replace hle := cLe.cP (ci := 10) (a := x1.getD 0) (k := 4) (v := va_rf (none : Option Nat)) hle
          refine g_iload_n C d_Ma_holdFrames_61 rfl ?_
          exact c_iret (M := cP 10 w18 (x1.getD 0) 4 (va_rf (none : Option Nat))) C hr hlocks hle d_Ma_holdFrames_62 (by rw [← hF]; exact ⟨rfl, rfl⟩)
        · cases hv.1
    · cases hv.1
  · cases hv.1
def F_Ma_raise_37 (cs : Nat → ClassId) (dE : Nat × Nat) : Nat → gMem → Nat → Option Nat → Int32 → Int32 → Int32 → Option Nat → Int32 → Int32 → gMem
  | 0, M, _, _, _, _, _, _, _, _ => M
  | n + 1, M, a0, x1, x2, x3, x4, x5, x6, x7 => if x6 = (-1) then (if (cQ M (x5.getD 0) 4) = none then (if x6 = (-1) then (cP 8 (cP 8 M a0 9 (.int x3)) a0 4 (.int 4)) else (mbind (F_Ma_isFull cs M a0 (1 + x7)) (fun w42 => if w42.1 = 0 then (mbind (F_Ma_holdFrames cs dE w42.2 a0 x5 x7) (fun w47 => mbind (F_Co_field cs w47.2 ((cQ w47.2 a0 0).getD 0) x6 2) (fun w52 => mbind (F_Ma_enter cs dE w47.2 a0 (cQ w42.2 (x5.getD 0) 4) (cQ w47.2 (x5.getD 0) 3) w52) (fun w55 => mbind (F_Co_field cs w55 ((cQ w55 a0 0).getD 0) x6 3) (fun w60 => mbind (F_Fr_give cs w55 ((cQ w55 a0 10).getD 0) w60 x4) (fun w63 => mbind (F_Co_field cs w63 ((cQ w63 a0 0).getD 0) x6 4) (fun w68 => mbind (F_Fr_give cs w63 ((cQ w63 a0 10).getD 0) w68 w47.1) (fun w71 => w71)))))))) else (w42.2)))) else (if 400 < x7 then (if x6 = (-1) then (cP 8 (cP 8 M a0 9 (.int x3)) a0 4 (.int 4)) else (mbind (F_Ma_isFull cs M a0 (1 + x7)) (fun w78 => if w78.1 = 0 then (mbind (F_Ma_holdFrames cs dE w78.2 a0 x5 x7) (fun w83 => mbind (F_Co_field cs w83.2 ((cQ w83.2 a0 0).getD 0) x6 2) (fun w88 => mbind (F_Ma_enter cs dE w83.2 a0 (cQ w78.2 (x5.getD 0) 4) (cQ w83.2 (x5.getD 0) 3) w88) (fun w91 => mbind (F_Co_field cs w91 ((cQ w91 a0 0).getD 0) x6 3) (fun w96 => mbind (F_Fr_give cs w91 ((cQ w91 a0 10).getD 0) w96 x4) (fun w99 => mbind (F_Co_field cs w99 ((cQ w99 a0 0).getD 0) x6 4) (fun w104 => mbind (F_Fr_give cs w99 ((cQ w99 a0 10).getD 0) w104 w83.1) (fun w107 => w107)))))))) else (w78.2)))) else (mbind (F_Co_caseOf cs n M ((cQ M a0 0).getD 0) (cQ M ((cQ M (x5.getD 0) 4).getD 0) 3) x3) (fun w115 => F_Ma_raise_37 cs dE n M a0 x1 x2 x3 x4 (cQ M (x5.getD 0) 4) w115 (x7 + 1))))) else (if x6 = (-1) then (cP 8 (cP 8 M a0 9 (.int x3)) a0 4 (.int 4)) else (mbind (F_Ma_isFull cs M a0 (1 + x7)) (fun w5 => if w5.1 = 0 then (mbind (F_Ma_holdFrames cs dE w5.2 a0 x5 x7) (fun w10 => mbind (F_Co_field cs w10.2 ((cQ w10.2 a0 0).getD 0) x6 2) (fun w15 => mbind (F_Ma_enter cs dE w10.2 a0 (cQ w5.2 (x5.getD 0) 4) (cQ w10.2 (x5.getD 0) 3) w15) (fun w18 => mbind (F_Co_field cs w18 ((cQ w18 a0 0).getD 0) x6 3) (fun w23 => mbind (F_Fr_give cs w18 ((cQ w18 a0 10).getD 0) w23 x4) (fun w26 => mbind (F_Co_field cs w26 ((cQ w26 a0 0).getD 0) x6 4) (fun w31 => mbind (F_Fr_give cs w26 ((cQ w26 a0 10).getD 0) w31 w10.1) (fun w34 => w34)))))))) else (w5.2))))
def S_Ma_raise_37 (cs : Nat → ClassId) (lim : Nat × Nat) (dE : Nat × Nat) : Nat → gMem → Nat → Option Nat → Int32 → Int32 → Int32 → Option Nat → Int32 → Int32 → Prop
  | 0, _, _, _, _, _, _, _, _, _ => False
  | n + 1, M, a0, x1, x2, x3, x4, x5, x6, x7 => if x6 = (-1) then ((cOq 10 M x5) ∧ (if (cQ M (x5.getD 0) 4) = none then (if x6 = (-1) then ((cOk 8 M a0) ∧ ((cOk 8 (cP 8 M a0 9 (.int x3)) a0) ∧ (True))) else ((cOk 8 M a0) ∧ ((S_Ma_isFull cs lim M a0 (1 + x7)) ∧ (mbind (F_Ma_isFull cs M a0 (1 + x7)) (fun w42 => if w42.1 = 0 then ((cOq 10 w42.2 x5) ∧ ((cOk 8 w42.2 a0) ∧ ((S_Ma_holdFrames cs lim dE w42.2 a0 x5 x7) ∧ (mbind (F_Ma_holdFrames cs dE w42.2 a0 x5 x7) (fun w47 => (cOq 10 w47.2 x5) ∧ ((cOk 8 w47.2 a0) ∧ ((cOq 7 w47.2 (cQ w47.2 a0 0)) ∧ ((S_Co_field cs lim w47.2 ((cQ w47.2 a0 0).getD 0) x6 2) ∧ (mbind (F_Co_field cs w47.2 ((cQ w47.2 a0 0).getD 0) x6 2) (fun w52 => (cOk 8 w47.2 a0) ∧ ((S_Ma_enter cs lim dE w47.2 a0 (cQ w42.2 (x5.getD 0) 4) (cQ w47.2 (x5.getD 0) 3) w52) ∧ (mbind (F_Ma_enter cs dE w47.2 a0 (cQ w42.2 (x5.getD 0) 4) (cQ w47.2 (x5.getD 0) 3) w52) (fun w55 => (cOk 8 w55 a0) ∧ ((cOk 8 w55 a0) ∧ ((cOq 7 w55 (cQ w55 a0 0)) ∧ ((S_Co_field cs lim w55 ((cQ w55 a0 0).getD 0) x6 3) ∧ (mbind (F_Co_field cs w55 ((cQ w55 a0 0).getD 0) x6 3) (fun w60 => (cOq 10 w55 (cQ w55 a0 10)) ∧ ((S_Fr_give cs lim w55 ((cQ w55 a0 10).getD 0) w60 x4) ∧ (mbind (F_Fr_give cs w55 ((cQ w55 a0 10).getD 0) w60 x4) (fun w63 => (cOk 8 w63 a0) ∧ ((cOk 8 w63 a0) ∧ ((cOq 7 w63 (cQ w63 a0 0)) ∧ ((S_Co_field cs lim w63 ((cQ w63 a0 0).getD 0) x6 4) ∧ (mbind (F_Co_field cs w63 ((cQ w63 a0 0).getD 0) x6 4) (fun w68 => (cOq 10 w63 (cQ w63 a0 10)) ∧ ((S_Fr_give cs lim w63 ((cQ w63 a0 10).getD 0) w68 w47.1) ∧ (mbind (F_Fr_give cs w63 ((cQ w63 a0 10).getD 0) w68 w47.1) (fun w71 => True))))))))))))))))))))))))))))) else (True)))))) else (if 400 < x7 then (if x6 = (-1) then ((cOk 8 M a0) ∧ ((cOk 8 (cP 8 M a0 9 (.int x3)) a0) ∧ (True))) else ((cOk 8 M a0) ∧ ((S_Ma_isFull cs lim M a0 (1 + x7)) ∧ (mbind (F_Ma_isFull cs M a0 (1 + x7)) (fun w78 => if w78.1 = 0 then ((cOq 10 w78.2 x5) ∧ ((cOk 8 w78.2 a0) ∧ ((S_Ma_holdFrames cs lim dE w78.2 a0 x5 x7) ∧ (mbind (F_Ma_holdFrames cs dE w78.2 a0 x5 x7) (fun w83 => (cOq 10 w83.2 x5) ∧ ((cOk 8 w83.2 a0) ∧ ((cOq 7 w83.2 (cQ w83.2 a0 0)) ∧ ((S_Co_field cs lim w83.2 ((cQ w83.2 a0 0).getD 0) x6 2) ∧ (mbind (F_Co_field cs w83.2 ((cQ w83.2 a0 0).getD 0) x6 2) (fun w88 => (cOk 8 w83.2 a0) ∧ ((S_Ma_enter cs lim dE w83.2 a0 (cQ w78.2 (x5.getD 0) 4) (cQ w83.2 (x5.getD 0) 3) w88) ∧ (mbind (F_Ma_enter cs dE w83.2 a0 (cQ w78.2 (x5.getD 0) 4) (cQ w83.2 (x5.getD 0) 3) w88) (fun w91 => (cOk 8 w91 a0) ∧ ((cOk 8 w91 a0) ∧ ((cOq 7 w91 (cQ w91 a0 0)) ∧ ((S_Co_field cs lim w91 ((cQ w91 a0 0).getD 0) x6 3) ∧ (mbind (F_Co_field cs w91 ((cQ w91 a0 0).getD 0) x6 3) (fun w96 => (cOq 10 w91 (cQ w91 a0 10)) ∧ ((S_Fr_give cs lim w91 ((cQ w91 a0 10).getD 0) w96 x4) ∧ (mbind (F_Fr_give cs w91 ((cQ w91 a0 10).getD 0) w96 x4) (fun w99 => (cOk 8 w99 a0) ∧ ((cOk 8 w99 a0) ∧ ((cOq 7 w99 (cQ w99 a0 0)) ∧ ((S_Co_field cs lim w99 ((cQ w99 a0 0).getD 0) x6 4) ∧ (mbind (F_Co_field cs w99 ((cQ w99 a0 0).getD 0) x6 4) (fun w104 => (cOq 10 w99 (cQ w99 a0 10)) ∧ ((S_Fr_give cs lim w99 ((cQ w99 a0 10).getD 0) w104 w83.1) ∧ (mbind (F_Fr_give cs w99 ((cQ w99 a0 10).getD 0) w104 w83.1) (fun w107 => True))))))))))))))))))))))))))))) else (True)))))) else ((cOq 10 M x5) ∧ ((cOk 8 M a0) ∧ ((cOq 10 M (cQ M (x5.getD 0) 4)) ∧ ((cOq 7 M (cQ M a0 0)) ∧ ((S_Co_caseOf cs lim n M ((cQ M a0 0).getD 0) (cQ M ((cQ M (x5.getD 0) 4).getD 0) 3) x3) ∧ (mbind (F_Co_caseOf cs n M ((cQ M a0 0).getD 0) (cQ M ((cQ M (x5.getD 0) 4).getD 0) 3) x3) (fun w115 => S_Ma_raise_37 cs lim dE n M a0 x1 x2 x3 x4 (cQ M (x5.getD 0) 4) w115 (x7 + 1))))))))))) else (if x6 = (-1) then ((cOk 8 M a0) ∧ ((cOk 8 (cP 8 M a0 9 (.int x3)) a0) ∧ (True))) else ((cOk 8 M a0) ∧ ((S_Ma_isFull cs lim M a0 (1 + x7)) ∧ (mbind (F_Ma_isFull cs M a0 (1 + x7)) (fun w5 => if w5.1 = 0 then ((cOq 10 w5.2 x5) ∧ ((cOk 8 w5.2 a0) ∧ ((S_Ma_holdFrames cs lim dE w5.2 a0 x5 x7) ∧ (mbind (F_Ma_holdFrames cs dE w5.2 a0 x5 x7) (fun w10 => (cOq 10 w10.2 x5) ∧ ((cOk 8 w10.2 a0) ∧ ((cOq 7 w10.2 (cQ w10.2 a0 0)) ∧ ((S_Co_field cs lim w10.2 ((cQ w10.2 a0 0).getD 0) x6 2) ∧ (mbind (F_Co_field cs w10.2 ((cQ w10.2 a0 0).getD 0) x6 2) (fun w15 => (cOk 8 w10.2 a0) ∧ ((S_Ma_enter cs lim dE w10.2 a0 (cQ w5.2 (x5.getD 0) 4) (cQ w10.2 (x5.getD 0) 3) w15) ∧ (mbind (F_Ma_enter cs dE w10.2 a0 (cQ w5.2 (x5.getD 0) 4) (cQ w10.2 (x5.getD 0) 3) w15) (fun w18 => (cOk 8 w18 a0) ∧ ((cOk 8 w18 a0) ∧ ((cOq 7 w18 (cQ w18 a0 0)) ∧ ((S_Co_field cs lim w18 ((cQ w18 a0 0).getD 0) x6 3) ∧ (mbind (F_Co_field cs w18 ((cQ w18 a0 0).getD 0) x6 3) (fun w23 => (cOq 10 w18 (cQ w18 a0 10)) ∧ ((S_Fr_give cs lim w18 ((cQ w18 a0 10).getD 0) w23 x4) ∧ (mbind (F_Fr_give cs w18 ((cQ w18 a0 10).getD 0) w23 x4) (fun w26 => (cOk 8 w26 a0) ∧ ((cOk 8 w26 a0) ∧ ((cOq 7 w26 (cQ w26 a0 0)) ∧ ((S_Co_field cs lim w26 ((cQ w26 a0 0).getD 0) x6 4) ∧ (mbind (F_Co_field cs w26 ((cQ w26 a0 0).getD 0) x6 4) (fun w31 => (cOq 10 w26 (cQ w26 a0 10)) ∧ ((S_Fr_give cs lim w26 ((cQ w26 a0 10).getD 0) w31 w10.1) ∧ (mbind (F_Fr_give cs w26 ((cQ w26 a0 10).getD 0) w31 w10.1) (fun w34 => True))))))))))))))))))))))))))))) else (True))))))
set_option maxRecDepth 100000 in
set_option maxHeartbeats 4000000 in
theorem w_Ma_raise_37 {p : Program} {l : Launch} {e : Env} {s : State} {m : MethodId} {args : Array Value} {below : List Frame} {meth : Method} {c : Code} {D : va_G} {cs : Nat → ClassId} {B : Nat} {dE : Nat × Nat} {lim : Nat × Nat} {M0 : gMem} (C : CallFix p m c c_Ma_raise 10 s args gT y_Ma_raise.cls) (hE : gEnv D gcl (gtys cs) gz B dE s) (hf : l.flags = pinnedFlags ++ [noTraceFlag]) (hr : meth.sig.returnType = none) (hlocks : meth.locks = false) (hex : c.exceptionTable.isEmpty = true) (hn : meth.name = y_Ma_raise.name) : ∀ (n : Nat) (M : gMem) (a0 : Nat) (x1 : Option Nat) (x2 : Int32) (x3 : Int32) (x4 : Int32) (x5 : Option Nat) (x6 : Int32) (x7 : Int32) (Fv : gMem) (hle : cLe lim M0 M) (hS : S_Ma_raise_37 cs lim dE n M a0 x1 x2 x3 x4 x5 x6 x7) (hF : F_Ma_raise_37 cs dE n M a0 x1 x2 x3 x4 x5 x6 x7 = Fv), GW p l e ({ frames := 11, cells := lim.1 - M0.2.1, slots := lim.2 - M0.2.2, locals := 236 } : Room) s m args below meth c 10 (gA B) (cQ0 below D B (gA B) lim M0 (fun x M' => x = .inl none ∧ M' = Fv) args s) (gR D gcl B M) (M.2.1 - M0.2.1) (M.2.2 - M0.2.2) 37 [(0, .ref a0), (1, va_rf x1), (2, .int x2), (3, .int x3), (4, .int x4), (5, va_rf x5), (6, .int x6), (7, .int x7)] [] := by
  intro n
  induction n with
  | zero =>
    intro M a0 x1 x2 x3 x4 x5 x6 x7 Fv hle hS hF
    exact hS.elim
  | succ n ih =>
    intro M a0 x1 x2 x3 x4 x5 x6 x7 Fv hle hS hF
    simp only [S_Ma_raise_37] at hS
    simp only [F_Ma_raise_37] at hF
    refine g_iload C d_Ma_raise_37 rfl ?_
    refine g_iconst (v := (-1)) C d_Ma_raise_39 (by decide) ?_
    refine g_icmp_ne C 87 d_Ma_raise_40 (by decide) (fun hc1 => ?_) (fun hc1 => ?_)
    · rw [if_neg hc1] at hF hS
      refine g_iload C d_Ma_raise_87 rfl ?_
      refine g_iconst (v := (-1)) C d_Ma_raise_89 (by decide) ?_
      refine g_icmp_ne C 106 d_Ma_raise_90 (by decide) (fun hc2 => ?_) (fun hc2 => ?_)
      · rw [if_neg hc2] at hF hS
        refine g_aload_n C d_Ma_raise_106 rfl ?_
        refine g_iconst (v := 1) C d_Ma_raise_107 (by decide) ?_
        refine g_iload C d_Ma_raise_108 rfl ?_
        refine g_iadd C d_Ma_raise_110 ?_
        obtain ⟨ho3, hS⟩ := hS
        obtain ⟨hs4, hS⟩ := hS
        refine c_call (av := [.ref a0, .int (1 + x7)]) (rest := []) C hE (fun _ h => h) ⟨rfl, rfl⟩ hle (cc_Ma_isFull l hf D cs B dE lim _ a0 (1 + x7) hs4) (fun _ h => h) kd_Ma_isFull ki_Ma (Nat.le_of_ble_eq_true rfl) (Nat.le_of_ble_eq_true rfl) d_Ma_raise_111 (Nat.le_of_ble_eq_true rfl) (c_fV (n := 1) (ci := 8) C hE.1 rfl km_Ma_140 kv_Ma_isFull kl_Ma_isFull kd_Ma_isFull ⟨by decide, by decide, by decide⟩ rfl rfl d_Ma_raise_111 ho3) (fun v1 M1 hv hle => ?_) (fun E1 M1 hv hle => ?_)
        · rw [mbind_eq] at hF hS
          obtain ⟨hx, hM1⟩ := hv
          have hM2 := hM1.symm
          subst hM2
          generalize hq_w5 : F_Ma_isFull cs M a0 (1 + x7) = w5 at hF hS hx hle ⊢
          cases hx
          refine GW.eqs (st' := [.int w5.1]) rfl ?_
          refine g_if_ne C 193 d_Ma_raise_114 (by decide) (fun hc6 => ?_) (fun hc6 => ?_)
          · rw [if_neg hc6] at hF hS
            exact c_vret (M := w5.2) C hr hlocks hle d_Ma_raise_193 (by rw [← hF]; exact ⟨rfl, rfl⟩)
          · rw [if_pos hc6] at hF hS
            refine q_aload (r := x5) C d_Ma_raise_117 rfl ?_
            obtain ⟨ho7, hS⟩ := hS
            refine GW.known1 (a := x5.getD 0) (cOq.at ho7).1 ?_
            refine c_getqN C hE.1 (ci := 10) i_Fr rfl 4 (by decide) (by decide) (by decide) (gE_fN hE kf_Ma_51) d_Ma_raise_119 (cOq.at ho7).2 ?_
            refine q_astore (r := cQ w5.2 (x5.getD 0) 4) (lv' := [(8, va_rf (cQ w5.2 (x5.getD 0) 4)), (0, .ref a0), (1, va_rf x1), (2, .int x2), (3, .int x3), (4, .int x4), (5, va_rf x5), (6, .int x6), (7, .int x7)]) C d_Ma_raise_122 (by decide) rfl ?_
            refine g_aload_n C d_Ma_raise_124 rfl ?_
            refine q_aload (r := x5) C d_Ma_raise_125 rfl ?_
            refine g_iload C d_Ma_raise_127 rfl ?_
            obtain ⟨ho8, hS⟩ := hS
            obtain ⟨hs9, hS⟩ := hS
            refine c_call (av := [.ref a0, va_rf x5, .int x7]) (rest := []) C hE (fun _ h => h) ⟨rfl, rfl⟩ hle (cc_Ma_holdFrames l hf D cs B dE lim _ a0 x5 x7 hs9) (fun _ h => h) kd_Ma_holdFrames ki_Ma (Nat.le_of_ble_eq_true rfl) (Nat.le_of_ble_eq_true rfl) d_Ma_raise_129 (Nat.le_of_ble_eq_true rfl) (c_fV (n := 2) (ci := 8) C hE.1 rfl km_Ma_199 kv_Ma_holdFrames kl_Ma_holdFrames kd_Ma_holdFrames ⟨by decide, by decide, by decide⟩ rfl rfl d_Ma_raise_129 ho8) (fun v1 M1 hv hle => ?_) (fun E1 M1 hv hle => ?_)
            · rw [mbind_eq] at hF hS
              obtain ⟨hx, hM1⟩ := hv
              have hM2 := hM1.symm
              subst hM2
              generalize hq_w10 : F_Ma_holdFrames cs dE w5.2 a0 x5 x7 = w10 at hF hS hx hle ⊢
              cases hx
              refine GW.eqs (st' := [.int w10.1]) rfl ?_
              refine g_istore (lv' := [(9, .int w10.1), (8, va_rf (cQ w5.2 (x5.getD 0) 4)), (0, .ref a0), (1, va_rf x1), (2, .int x2), (3, .int x3), (4, .int x4), (5, va_rf x5), (6, .int x6), (7, .int x7)]) C d_Ma_raise_132 (by decide) (by first | rfl | (simp only [lvs, List.filter, rf_cat]; rfl) | simp [lvs, List.filter, rf_cat]) ?_
              refine g_aload_n C d_Ma_raise_134 rfl ?_
              refine q_aload (r := cQ w5.2 (x5.getD 0) 4) C d_Ma_raise_135 rfl ?_
              refine q_aload (r := x5) C d_Ma_raise_137 rfl ?_
              obtain ⟨ho11, hS⟩ := hS
              refine GW.known1 (a := x5.getD 0) (cOq.at ho11).1 ?_
              refine c_getqN C hE.1 (ci := 10) i_Fr rfl 3 (by decide) (by decide) (by decide) (gE_fN hE kf_Ma_168) d_Ma_raise_139 (cOq.at ho11).2 ?_
              refine g_aload_n C d_Ma_raise_142 rfl ?_
              obtain ⟨ho12, hS⟩ := hS
              refine c_getq C hE.1 (ci := 8) i_Ma rfl 0 (by decide) (by decide) (by decide) kf_Ma_18 d_Ma_raise_143 ho12 ?_
              refine g_iload C d_Ma_raise_146 rfl ?_
              refine g_iconst (v := 2) C d_Ma_raise_148 (by decide) ?_
              obtain ⟨ho13, hS⟩ := hS
              refine GW.known3 (a := (cQ w10.2 a0 0).getD 0) (cOq.at ho13).1 ?_
              obtain ⟨hs14, hS⟩ := hS
              refine c_call (av := [.ref ((cQ w10.2 a0 0).getD 0), .int x6, .int 2]) (rest := [va_rf (cQ w10.2 (x5.getD 0) 3), va_rf (cQ w5.2 (x5.getD 0) 4), .ref a0]) C hE (fun _ h => h) ⟨rfl, rfl⟩ hle (cc_Co_field l hf D cs B dE lim _ ((cQ w10.2 a0 0).getD 0) x6 2 hs14) (fun _ h => h.elim) kd_Co_field ki_Co (Nat.le_of_ble_eq_true rfl) (Nat.le_of_ble_eq_true rfl) d_Ma_raise_149 (by simp only [List.map_cons, List.map_nil, rf_cat, List.sum_cons, List.sum_nil]; exact Nat.le_of_ble_eq_true rfl) (c_fV (n := 2) (ci := 7) C hE.1 rfl km_Ma_86 kv_Co_field kl_Co_field kd_Co_field ⟨by decide, by decide, by decide⟩ rfl rfl d_Ma_raise_149 (cOq.at ho13).2) (fun v1 M1 hv hle => ?_) (fun E1 M1 hv hle => ?_)
              · rw [mbind_eq] at hF hS
                obtain ⟨hx, hM1⟩ := hv
                have hM2 := hM1.symm
                subst hM2
                generalize hq_w15 : F_Co_field cs w10.2 ((cQ w10.2 a0 0).getD 0) x6 2 = w15 at hF hS hx hle ⊢
                cases hx
                refine GW.eqs (st' := [.int w15, va_rf (cQ w10.2 (x5.getD 0) 3), va_rf (cQ w5.2 (x5.getD 0) 4), .ref a0]) rfl ?_
                obtain ⟨ho16, hS⟩ := hS
                obtain ⟨hs17, hS⟩ := hS
                refine c_call (av := [.ref a0, va_rf (cQ w5.2 (x5.getD 0) 4), va_rf (cQ w10.2 (x5.getD 0) 3), .int w15]) (rest := []) C hE (fun _ h => h) ⟨rfl, rfl⟩ hle (cc_Ma_enter l hf D cs B dE lim _ a0 (cQ w5.2 (x5.getD 0) 4) (cQ w10.2 (x5.getD 0) 3) w15 hs17) (fun _ h => h) kd_Ma_enter ki_Ma (Nat.le_of_ble_eq_true rfl) (Nat.le_of_ble_eq_true rfl) d_Ma_raise_152 (Nat.le_of_ble_eq_true rfl) (c_fV (n := 3) (ci := 8) C hE.1 rfl km_Ma_164 kv_Ma_enter kl_Ma_enter kd_Ma_enter ⟨by decide, by decide, by decide⟩ rfl rfl d_Ma_raise_152 ho16) (fun v1 M1 hv hle => ?_) (fun E1 M1 hv hle => ?_)
                · rw [mbind_eq] at hF hS
                  obtain ⟨hx, hM1⟩ := hv
                  have hM2 := hM1.symm
                  subst hM2
                  generalize hq_w18 : F_Ma_enter cs dE w10.2 a0 (cQ w5.2 (x5.getD 0) 4) (cQ w10.2 (x5.getD 0) 3) w15 = w18 at hF hS hx hle ⊢
                  cases hx
                  refine GW.eqs (st' := []) rfl ?_
                  refine g_aload_n C d_Ma_raise_155 rfl ?_
                  obtain ⟨ho19, hS⟩ := hS
                  refine c_getq C hE.1 (ci := 8) i_Ma rfl 10 (by decide) (by decide) (by decide) kf_Ma_41 d_Ma_raise_156 ho19 ?_
                  refine g_aload_n C d_Ma_raise_159 rfl ?_
                  obtain ⟨ho20, hS⟩ := hS
                  refine c_getq C hE.1 (ci := 8) i_Ma rfl 0 (by decide) (by decide) (by decide) kf_Ma_18 d_Ma_raise_160 ho20 ?_
                  refine g_iload C d_Ma_raise_163 rfl ?_
                  refine g_iconst (v := 3) C d_Ma_raise_165 (by decide) ?_
                  obtain ⟨ho21, hS⟩ := hS
                  refine GW.known3 (a := (cQ w18 a0 0).getD 0) (cOq.at ho21).1 ?_
                  obtain ⟨hs22, hS⟩ := hS
                  refine c_call (av := [.ref ((cQ w18 a0 0).getD 0), .int x6, .int 3]) (rest := [va_rf (cQ w18 a0 10)]) C hE (fun _ h => h) ⟨rfl, rfl⟩ hle (cc_Co_field l hf D cs B dE lim _ ((cQ w18 a0 0).getD 0) x6 3 hs22) (fun _ h => h.elim) kd_Co_field ki_Co (Nat.le_of_ble_eq_true rfl) (Nat.le_of_ble_eq_true rfl) d_Ma_raise_166 (by simp only [List.map_cons, List.map_nil, rf_cat, List.sum_cons, List.sum_nil]; exact Nat.le_of_ble_eq_true rfl) (c_fV (n := 2) (ci := 7) C hE.1 rfl km_Ma_86 kv_Co_field kl_Co_field kd_Co_field ⟨by decide, by decide, by decide⟩ rfl rfl d_Ma_raise_166 (cOq.at ho21).2) (fun v1 M1 hv hle => ?_) (fun E1 M1 hv hle => ?_)
                  · rw [mbind_eq] at hF hS
                    obtain ⟨hx, hM1⟩ := hv
                    have hM2 := hM1.symm
                    subst hM2
                    generalize hq_w23 : F_Co_field cs w18 ((cQ w18 a0 0).getD 0) x6 3 = w23 at hF hS hx hle ⊢
                    cases hx
                    refine GW.eqs (st' := [.int w23, va_rf (cQ w18 a0 10)]) rfl ?_
                    refine g_iload C d_Ma_raise_169 rfl ?_
                    obtain ⟨ho24, hS⟩ := hS
                    refine GW.known3 (a := (cQ w18 a0 10).getD 0) (cOq.at ho24).1 ?_
                    obtain ⟨hs25, hS⟩ := hS
                    refine c_call (av := [.ref ((cQ w18 a0 10).getD 0), .int w23, .int x4]) (rest := []) C hE (fun _ h => h) ⟨rfl, rfl⟩ hle (cc_Fr_give l hf D cs B dE lim _ ((cQ w18 a0 10).getD 0) w23 x4 hs25) (fun _ h => h) kd_Fr_give ki_Fr (Nat.le_of_ble_eq_true rfl) (Nat.le_of_ble_eq_true rfl) d_Ma_raise_171 (Nat.le_of_ble_eq_true rfl) (c_fV (n := 2) (ci := 10) C hE.1 rfl km_Ma_136 kv_Fr_give kl_Fr_give kd_Fr_give ⟨by decide, by decide, by decide⟩ rfl rfl d_Ma_raise_171 (cOq.at ho24).2) (fun v1 M1 hv hle => ?_) (fun E1 M1 hv hle => ?_)
                    · rw [mbind_eq] at hF hS
                      obtain ⟨hx, hM1⟩ := hv
                      have hM2 := hM1.symm
                      subst hM2
                      generalize hq_w26 : F_Fr_give cs w18 ((cQ w18 a0 10).getD 0) w23 x4 = w26 at hF hS hx hle ⊢
                      cases hx
                      refine GW.eqs (st' := []) rfl ?_
                      refine g_aload_n C d_Ma_raise_174 rfl ?_
                      obtain ⟨ho27, hS⟩ := hS
                      refine c_getq C hE.1 (ci := 8) i_Ma rfl 10 (by decide) (by decide) (by decide) kf_Ma_41 d_Ma_raise_175 ho27 ?_
                      refine g_aload_n C d_Ma_raise_178 rfl ?_
                      obtain ⟨ho28, hS⟩ := hS
                      refine c_getq C hE.1 (ci := 8) i_Ma rfl 0 (by decide) (by decide) (by decide) kf_Ma_18 d_Ma_raise_179 ho28 ?_
                      refine g_iload C d_Ma_raise_182 rfl ?_
                      refine g_iconst (v := 4) C d_Ma_raise_184 (by decide) ?_
                      obtain ⟨ho29, hS⟩ := hS
                      refine GW.known3 (a := (cQ w26 a0 0).getD 0) (cOq.at ho29).1 ?_
                      obtain ⟨hs30, hS⟩ := hS
                      refine c_call (av := [.ref ((cQ w26 a0 0).getD 0), .int x6, .int 4]) (rest := [va_rf (cQ w26 a0 10)]) C hE (fun _ h => h) ⟨rfl, rfl⟩ hle (cc_Co_field l hf D cs B dE lim _ ((cQ w26 a0 0).getD 0) x6 4 hs30) (fun _ h => h.elim) kd_Co_field ki_Co (Nat.le_of_ble_eq_true rfl) (Nat.le_of_ble_eq_true rfl) d_Ma_raise_185 (by simp only [List.map_cons, List.map_nil, rf_cat, List.sum_cons, List.sum_nil]; exact Nat.le_of_ble_eq_true rfl) (c_fV (n := 2) (ci := 7) C hE.1 rfl km_Ma_86 kv_Co_field kl_Co_field kd_Co_field ⟨by decide, by decide, by decide⟩ rfl rfl d_Ma_raise_185 (cOq.at ho29).2) (fun v1 M1 hv hle => ?_) (fun E1 M1 hv hle => ?_)
                      · rw [mbind_eq] at hF hS
                        obtain ⟨hx, hM1⟩ := hv
                        have hM2 := hM1.symm
                        subst hM2
                        generalize hq_w31 : F_Co_field cs w26 ((cQ w26 a0 0).getD 0) x6 4 = w31 at hF hS hx hle ⊢
                        cases hx
                        refine GW.eqs (st' := [.int w31, va_rf (cQ w26 a0 10)]) rfl ?_
                        refine g_iload C d_Ma_raise_188 rfl ?_
                        obtain ⟨ho32, hS⟩ := hS
                        refine GW.known3 (a := (cQ w26 a0 10).getD 0) (cOq.at ho32).1 ?_
                        obtain ⟨hs33, hS⟩ := hS
                        refine c_call (av := [.ref ((cQ w26 a0 10).getD 0), .int w31, .int w10.1]) (rest := []) C hE (fun _ h => h) ⟨rfl, rfl⟩ hle (cc_Fr_give l hf D cs B dE lim _ ((cQ w26 a0 10).getD 0) w31 w10.1 hs33) (fun _ h => h) kd_Fr_give ki_Fr (Nat.le_of_ble_eq_true rfl) (Nat.le_of_ble_eq_true rfl) d_Ma_raise_190 (Nat.le_of_ble_eq_true rfl) (c_fV (n := 2) (ci := 10) C hE.1 rfl km_Ma_136 kv_Fr_give kl_Fr_give kd_Fr_give ⟨by decide, by decide, by decide⟩ rfl rfl d_Ma_raise_190 (cOq.at ho32).2) (fun v1 M1 hv hle => ?_) (fun E1 M1 hv hle => ?_)
                        · rw [mbind_eq] at hF hS
                          obtain ⟨hx, hM1⟩ := hv
                          have hM2 := hM1.symm
                          subst hM2
                          generalize hq_w34 : F_Fr_give cs w26 ((cQ w26 a0 10).getD 0) w31 w10.1 = w34 at hF hS hx hle ⊢
                          cases hx
                          refine GW.eqs (st' := []) rfl ?_
                          exact c_vret (M := w34) C hr hlocks hle d_Ma_raise_193 (by rw [← hF]; exact ⟨rfl, rfl⟩)
                        · cases hv.1
                      · cases hv.1
                    · cases hv.1
                  · cases hv.1
                · cases hv.1
              · cases hv.1
            · cases hv.1
        · cases hv.1
      · rw [if_pos hc2] at hF hS
        refine g_aload_n C d_Ma_raise_93 rfl ?_
        refine g_iload_n C d_Ma_raise_94 rfl ?_
        obtain ⟨ho35, hS⟩ := hS
        refine k_put (M0 := M0) (M := M) C hE.1 (ci := 8) i_Ma rfl 9 (by decide) (by decide) kf_Ma_22 t_Ma t_Ma_ok n_Ma rfl (nf_i _) d_Ma_raise_95 ho35 ?_
        replace hle := cLe.cP (ci := 8) (a := a0) (k := 9) (v := .int x3) hle
        refine g_aload_n C d_Ma_raise_98 rfl ?_
        refine g_iconst (v := 4) C d_Ma_raise_99 (by decide) ?_
        obtain ⟨ho36, hS⟩ := hS
        refine k_put (M0 := M0) (M := cP 8 M a0 9 (.int x3)) C hE.1 (ci := 8) i_Ma rfl 4 (by decide) (by decide) kf_Ma_54 t_Ma t_Ma_ok n_Ma rfl (nf_i _) d_Ma_raise_100 ho36 ?_
        replace hle := cLe.cP (ci := 8) (a := a0) (k := 4) (v := .int 4) hle
        refine g_goto C 193 d_Ma_raise_103 (by decide) ?_
        exact c_vret (M := cP 8 (cP 8 M a0 9 (.int x3)) a0 4 (.int 4)) C hr hlocks hle d_Ma_raise_193 (by rw [← hF]; exact ⟨rfl, rfl⟩)
    · rw [if_pos hc1] at hF hS
      refine q_aload (r := x5) C d_Ma_raise_43 rfl ?_
      obtain ⟨ho37, hS⟩ := hS
      refine GW.known1 (a := x5.getD 0) (cOq.at ho37).1 ?_
      refine c_getqN C hE.1 (ci := 10) i_Fr rfl 4 (by decide) (by decide) (by decide) (gE_fN hE kf_Ma_51) d_Ma_raise_45 (cOq.at ho37).2 ?_
      refine q_ifnull C 87 d_Ma_raise_48 (by decide) (fun hc38 => ?_) (fun hc38 => ?_)
      · rw [if_pos hc38] at hF hS
        refine g_iload C d_Ma_raise_87 rfl ?_
        refine g_iconst (v := (-1)) C d_Ma_raise_89 (by decide) ?_
        refine g_icmp_ne C 106 d_Ma_raise_90 (by decide) (fun hc39 => ?_) (fun hc39 => ?_)
        · rw [if_neg hc39] at hF hS
          refine g_aload_n C d_Ma_raise_106 rfl ?_
          refine g_iconst (v := 1) C d_Ma_raise_107 (by decide) ?_
          refine g_iload C d_Ma_raise_108 rfl ?_
          refine g_iadd C d_Ma_raise_110 ?_
          obtain ⟨ho40, hS⟩ := hS
          obtain ⟨hs41, hS⟩ := hS
          refine c_call (av := [.ref a0, .int (1 + x7)]) (rest := []) C hE (fun _ h => h) ⟨rfl, rfl⟩ hle (cc_Ma_isFull l hf D cs B dE lim _ a0 (1 + x7) hs41) (fun _ h => h) kd_Ma_isFull ki_Ma (Nat.le_of_ble_eq_true rfl) (Nat.le_of_ble_eq_true rfl) d_Ma_raise_111 (Nat.le_of_ble_eq_true rfl) (c_fV (n := 1) (ci := 8) C hE.1 rfl km_Ma_140 kv_Ma_isFull kl_Ma_isFull kd_Ma_isFull ⟨by decide, by decide, by decide⟩ rfl rfl d_Ma_raise_111 ho40) (fun v1 M1 hv hle => ?_) (fun E1 M1 hv hle => ?_)
          · rw [mbind_eq] at hF hS
            obtain ⟨hx, hM1⟩ := hv
            have hM2 := hM1.symm
            subst hM2
            generalize hq_w42 : F_Ma_isFull cs M a0 (1 + x7) = w42 at hF hS hx hle ⊢
            cases hx
            refine GW.eqs (st' := [.int w42.1]) rfl ?_
            refine g_if_ne C 193 d_Ma_raise_114 (by decide) (fun hc43 => ?_) (fun hc43 => ?_)
            · rw [if_neg hc43] at hF hS
              exact c_vret (M := w42.2) C hr hlocks hle d_Ma_raise_193 (by rw [← hF]; exact ⟨rfl, rfl⟩)
            · rw [if_pos hc43] at hF hS
              refine q_aload (r := x5) C d_Ma_raise_117 rfl ?_
              obtain ⟨ho44, hS⟩ := hS
              refine GW.known1 (a := x5.getD 0) (cOq.at ho44).1 ?_
              refine c_getqN C hE.1 (ci := 10) i_Fr rfl 4 (by decide) (by decide) (by decide) (gE_fN hE kf_Ma_51) d_Ma_raise_119 (cOq.at ho44).2 ?_
              refine q_astore (r := cQ w42.2 (x5.getD 0) 4) (lv' := [(8, va_rf (cQ w42.2 (x5.getD 0) 4)), (0, .ref a0), (1, va_rf x1), (2, .int x2), (3, .int x3), (4, .int x4), (5, va_rf x5), (6, .int x6), (7, .int x7)]) C d_Ma_raise_122 (by decide) rfl ?_
              refine g_aload_n C d_Ma_raise_124 rfl ?_
              refine q_aload (r := x5) C d_Ma_raise_125 rfl ?_
              refine g_iload C d_Ma_raise_127 rfl ?_
              obtain ⟨ho45, hS⟩ := hS
              obtain ⟨hs46, hS⟩ := hS
              refine c_call (av := [.ref a0, va_rf x5, .int x7]) (rest := []) C hE (fun _ h => h) ⟨rfl, rfl⟩ hle (cc_Ma_holdFrames l hf D cs B dE lim _ a0 x5 x7 hs46) (fun _ h => h) kd_Ma_holdFrames ki_Ma (Nat.le_of_ble_eq_true rfl) (Nat.le_of_ble_eq_true rfl) d_Ma_raise_129 (Nat.le_of_ble_eq_true rfl) (c_fV (n := 2) (ci := 8) C hE.1 rfl km_Ma_199 kv_Ma_holdFrames kl_Ma_holdFrames kd_Ma_holdFrames ⟨by decide, by decide, by decide⟩ rfl rfl d_Ma_raise_129 ho45) (fun v1 M1 hv hle => ?_) (fun E1 M1 hv hle => ?_)
              · rw [mbind_eq] at hF hS
                obtain ⟨hx, hM1⟩ := hv
                have hM2 := hM1.symm
                subst hM2
                generalize hq_w47 : F_Ma_holdFrames cs dE w42.2 a0 x5 x7 = w47 at hF hS hx hle ⊢
                cases hx
                refine GW.eqs (st' := [.int w47.1]) rfl ?_
                refine g_istore (lv' := [(9, .int w47.1), (8, va_rf (cQ w42.2 (x5.getD 0) 4)), (0, .ref a0), (1, va_rf x1), (2, .int x2), (3, .int x3), (4, .int x4), (5, va_rf x5), (6, .int x6), (7, .int x7)]) C d_Ma_raise_132 (by decide) (by first | rfl | (simp only [lvs, List.filter, rf_cat]; rfl) | simp [lvs, List.filter, rf_cat]) ?_
                refine g_aload_n C d_Ma_raise_134 rfl ?_
                refine q_aload (r := cQ w42.2 (x5.getD 0) 4) C d_Ma_raise_135 rfl ?_
                refine q_aload (r := x5) C d_Ma_raise_137 rfl ?_
                obtain ⟨ho48, hS⟩ := hS
                refine GW.known1 (a := x5.getD 0) (cOq.at ho48).1 ?_
                refine c_getqN C hE.1 (ci := 10) i_Fr rfl 3 (by decide) (by decide) (by decide) (gE_fN hE kf_Ma_168) d_Ma_raise_139 (cOq.at ho48).2 ?_
                refine g_aload_n C d_Ma_raise_142 rfl ?_
                obtain ⟨ho49, hS⟩ := hS
                refine c_getq C hE.1 (ci := 8) i_Ma rfl 0 (by decide) (by decide) (by decide) kf_Ma_18 d_Ma_raise_143 ho49 ?_
                refine g_iload C d_Ma_raise_146 rfl ?_
                refine g_iconst (v := 2) C d_Ma_raise_148 (by decide) ?_
                obtain ⟨ho50, hS⟩ := hS
                refine GW.known3 (a := (cQ w47.2 a0 0).getD 0) (cOq.at ho50).1 ?_
                obtain ⟨hs51, hS⟩ := hS
                refine c_call (av := [.ref ((cQ w47.2 a0 0).getD 0), .int x6, .int 2]) (rest := [va_rf (cQ w47.2 (x5.getD 0) 3), va_rf (cQ w42.2 (x5.getD 0) 4), .ref a0]) C hE (fun _ h => h) ⟨rfl, rfl⟩ hle (cc_Co_field l hf D cs B dE lim _ ((cQ w47.2 a0 0).getD 0) x6 2 hs51) (fun _ h => h.elim) kd_Co_field ki_Co (Nat.le_of_ble_eq_true rfl) (Nat.le_of_ble_eq_true rfl) d_Ma_raise_149 (by simp only [List.map_cons, List.map_nil, rf_cat, List.sum_cons, List.sum_nil]; exact Nat.le_of_ble_eq_true rfl) (c_fV (n := 2) (ci := 7) C hE.1 rfl km_Ma_86 kv_Co_field kl_Co_field kd_Co_field ⟨by decide, by decide, by decide⟩ rfl rfl d_Ma_raise_149 (cOq.at ho50).2) (fun v1 M1 hv hle => ?_) (fun E1 M1 hv hle => ?_)
                · rw [mbind_eq] at hF hS
                  obtain ⟨hx, hM1⟩ := hv
                  have hM2 := hM1.symm
                  subst hM2
                  generalize hq_w52 : F_Co_field cs w47.2 ((cQ w47.2 a0 0).getD 0) x6 2 = w52 at hF hS hx hle ⊢
                  cases hx
                  refine GW.eqs (st' := [.int w52, va_rf (cQ w47.2 (x5.getD 0) 3), va_rf (cQ w42.2 (x5.getD 0) 4), .ref a0]) rfl ?_
                  obtain ⟨ho53, hS⟩ := hS
                  obtain ⟨hs54, hS⟩ := hS
                  refine c_call (av := [.ref a0, va_rf (cQ w42.2 (x5.getD 0) 4), va_rf (cQ w47.2 (x5.getD 0) 3), .int w52]) (rest := []) C hE (fun _ h => h) ⟨rfl, rfl⟩ hle (cc_Ma_enter l hf D cs B dE lim _ a0 (cQ w42.2 (x5.getD 0) 4) (cQ w47.2 (x5.getD 0) 3) w52 hs54) (fun _ h => h) kd_Ma_enter ki_Ma (Nat.le_of_ble_eq_true rfl) (Nat.le_of_ble_eq_true rfl) d_Ma_raise_152 (Nat.le_of_ble_eq_true rfl) (c_fV (n := 3) (ci := 8) C hE.1 rfl km_Ma_164 kv_Ma_enter kl_Ma_enter kd_Ma_enter ⟨by decide, by decide, by decide⟩ rfl rfl d_Ma_raise_152 ho53) (fun v1 M1 hv hle => ?_) (fun E1 M1 hv hle => ?_)
                  · rw [mbind_eq] at hF hS
                    obtain ⟨hx, hM1⟩ := hv
                    have hM2 := hM1.symm
                    subst hM2
                    generalize hq_w55 : F_Ma_enter cs dE w47.2 a0 (cQ w42.2 (x5.getD 0) 4) (cQ w47.2 (x5.getD 0) 3) w52 = w55 at hF hS hx hle ⊢
                    cases hx
                    refine GW.eqs (st' := []) rfl ?_
                    refine g_aload_n C d_Ma_raise_155 rfl ?_
                    obtain ⟨ho56, hS⟩ := hS
                    refine c_getq C hE.1 (ci := 8) i_Ma rfl 10 (by decide) (by decide) (by decide) kf_Ma_41 d_Ma_raise_156 ho56 ?_
                    refine g_aload_n C d_Ma_raise_159 rfl ?_
                    obtain ⟨ho57, hS⟩ := hS
                    refine c_getq C hE.1 (ci := 8) i_Ma rfl 0 (by decide) (by decide) (by decide) kf_Ma_18 d_Ma_raise_160 ho57 ?_
                    refine g_iload C d_Ma_raise_163 rfl ?_
                    refine g_iconst (v := 3) C d_Ma_raise_165 (by decide) ?_
                    obtain ⟨ho58, hS⟩ := hS
                    refine GW.known3 (a := (cQ w55 a0 0).getD 0) (cOq.at ho58).1 ?_
                    obtain ⟨hs59, hS⟩ := hS
                    refine c_call (av := [.ref ((cQ w55 a0 0).getD 0), .int x6, .int 3]) (rest := [va_rf (cQ w55 a0 10)]) C hE (fun _ h => h) ⟨rfl, rfl⟩ hle (cc_Co_field l hf D cs B dE lim _ ((cQ w55 a0 0).getD 0) x6 3 hs59) (fun _ h => h.elim) kd_Co_field ki_Co (Nat.le_of_ble_eq_true rfl) (Nat.le_of_ble_eq_true rfl) d_Ma_raise_166 (by simp only [List.map_cons, List.map_nil, rf_cat, List.sum_cons, List.sum_nil]; exact Nat.le_of_ble_eq_true rfl) (c_fV (n := 2) (ci := 7) C hE.1 rfl km_Ma_86 kv_Co_field kl_Co_field kd_Co_field ⟨by decide, by decide, by decide⟩ rfl rfl d_Ma_raise_166 (cOq.at ho58).2) (fun v1 M1 hv hle => ?_) (fun E1 M1 hv hle => ?_)
                    · rw [mbind_eq] at hF hS
                      obtain ⟨hx, hM1⟩ := hv
                      have hM2 := hM1.symm
                      subst hM2
                      generalize hq_w60 : F_Co_field cs w55 ((cQ w55 a0 0).getD 0) x6 3 = w60 at hF hS hx hle ⊢
                      cases hx
                      refine GW.eqs (st' := [.int w60, va_rf (cQ w55 a0 10)]) rfl ?_
                      refine g_iload C d_Ma_raise_169 rfl ?_
                      obtain ⟨ho61, hS⟩ := hS
                      refine GW.known3 (a := (cQ w55 a0 10).getD 0) (cOq.at ho61).1 ?_
                      obtain ⟨hs62, hS⟩ := hS
                      refine c_call (av := [.ref ((cQ w55 a0 10).getD 0), .int w60, .int x4]) (rest := []) C hE (fun _ h => h) ⟨rfl, rfl⟩ hle (cc_Fr_give l hf D cs B dE lim _ ((cQ w55 a0 10).getD 0) w60 x4 hs62) (fun _ h => h) kd_Fr_give ki_Fr (Nat.le_of_ble_eq_true rfl) (Nat.le_of_ble_eq_true rfl) d_Ma_raise_171 (Nat.le_of_ble_eq_true rfl) (c_fV (n := 2) (ci := 10) C hE.1 rfl km_Ma_136 kv_Fr_give kl_Fr_give kd_Fr_give ⟨by decide, by decide, by decide⟩ rfl rfl d_Ma_raise_171 (cOq.at ho61).2) (fun v1 M1 hv hle => ?_) (fun E1 M1 hv hle => ?_)
                      · rw [mbind_eq] at hF hS
                        obtain ⟨hx, hM1⟩ := hv
                        have hM2 := hM1.symm
                        subst hM2
                        generalize hq_w63 : F_Fr_give cs w55 ((cQ w55 a0 10).getD 0) w60 x4 = w63 at hF hS hx hle ⊢
                        cases hx
                        refine GW.eqs (st' := []) rfl ?_
                        refine g_aload_n C d_Ma_raise_174 rfl ?_
                        obtain ⟨ho64, hS⟩ := hS
                        refine c_getq C hE.1 (ci := 8) i_Ma rfl 10 (by decide) (by decide) (by decide) kf_Ma_41 d_Ma_raise_175 ho64 ?_
                        refine g_aload_n C d_Ma_raise_178 rfl ?_
                        obtain ⟨ho65, hS⟩ := hS
                        refine c_getq C hE.1 (ci := 8) i_Ma rfl 0 (by decide) (by decide) (by decide) kf_Ma_18 d_Ma_raise_179 ho65 ?_
                        refine g_iload C d_Ma_raise_182 rfl ?_
                        refine g_iconst (v := 4) C d_Ma_raise_184 (by decide) ?_
                        obtain ⟨ho66, hS⟩ := hS
                        refine GW.known3 (a := (cQ w63 a0 0).getD 0) (cOq.at ho66).1 ?_
                        obtain ⟨hs67, hS⟩ := hS
                        refine c_call (av := [.ref ((cQ w63 a0 0).getD 0), .int x6, .int 4]) (rest := [va_rf (cQ w63 a0 10)]) C hE (fun _ h => h) ⟨rfl, rfl⟩ hle (cc_Co_field l hf D cs B dE lim _ ((cQ w63 a0 0).getD 0) x6 4 hs67) (fun _ h => h.elim) kd_Co_field ki_Co (Nat.le_of_ble_eq_true rfl) (Nat.le_of_ble_eq_true rfl) d_Ma_raise_185 (by simp only [List.map_cons, List.map_nil, rf_cat, List.sum_cons, List.sum_nil]; exact Nat.le_of_ble_eq_true rfl) (c_fV (n := 2) (ci := 7) C hE.1 rfl km_Ma_86 kv_Co_field kl_Co_field kd_Co_field ⟨by decide, by decide, by decide⟩ rfl rfl d_Ma_raise_185 (cOq.at ho66).2) (fun v1 M1 hv hle => ?_) (fun E1 M1 hv hle => ?_)
                        · rw [mbind_eq] at hF hS
                          obtain ⟨hx, hM1⟩ := hv
                          have hM2 := hM1.symm
                          subst hM2
                          generalize hq_w68 : F_Co_field cs w63 ((cQ w63 a0 0).getD 0) x6 4 = w68 at hF hS hx hle ⊢
                          cases hx
                          refine GW.eqs (st' := [.int w68, va_rf (cQ w63 a0 10)]) rfl ?_
                          refine g_iload C d_Ma_raise_188 rfl ?_
                          obtain ⟨ho69, hS⟩ := hS
                          refine GW.known3 (a := (cQ w63 a0 10).getD 0) (cOq.at ho69).1 ?_
                          obtain ⟨hs70, hS⟩ := hS
                          refine c_call (av := [.ref ((cQ w63 a0 10).getD 0), .int w68, .int w47.1]) (rest := []) C hE (fun _ h => h) ⟨rfl, rfl⟩ hle (cc_Fr_give l hf D cs B dE lim _ ((cQ w63 a0 10).getD 0) w68 w47.1 hs70) (fun _ h => h) kd_Fr_give ki_Fr (Nat.le_of_ble_eq_true rfl) (Nat.le_of_ble_eq_true rfl) d_Ma_raise_190 (Nat.le_of_ble_eq_true rfl) (c_fV (n := 2) (ci := 10) C hE.1 rfl km_Ma_136 kv_Fr_give kl_Fr_give kd_Fr_give ⟨by decide, by decide, by decide⟩ rfl rfl d_Ma_raise_190 (cOq.at ho69).2) (fun v1 M1 hv hle => ?_) (fun E1 M1 hv hle => ?_)
                          · rw [mbind_eq] at hF hS
                            obtain ⟨hx, hM1⟩ := hv
                            have hM2 := hM1.symm
                            subst hM2
                            generalize hq_w71 : F_Fr_give cs w63 ((cQ w63 a0 10).getD 0) w68 w47.1 = w71 at hF hS hx hle ⊢
                            cases hx
                            refine GW.eqs (st' := []) rfl ?_
                            exact c_vret (M := w71) C hr hlocks hle d_Ma_raise_193 (by rw [← hF]; exact ⟨rfl, rfl⟩)
                          · cases hv.1
                        · cases hv.1
                      · cases hv.1
                    · cases hv.1
                  · cases hv.1
                · cases hv.1
              · cases hv.1
          · cases hv.1
        · rw [if_pos hc39] at hF hS
          refine g_aload_n C d_Ma_raise_93 rfl ?_
          refine g_iload_n C d_Ma_raise_94 rfl ?_
          obtain ⟨ho72, hS⟩ := hS
          refine k_put (M0 := M0) (M := M) C hE.1 (ci := 8) i_Ma rfl 9 (by decide) (by decide) kf_Ma_22 t_Ma t_Ma_ok n_Ma rfl (nf_i _) d_Ma_raise_95 ho72 ?_
          replace hle := cLe.cP (ci := 8) (a := a0) (k := 9) (v := .int x3) hle
          refine g_aload_n C d_Ma_raise_98 rfl ?_
          refine g_iconst (v := 4) C d_Ma_raise_99 (by decide) ?_
          obtain ⟨ho73, hS⟩ := hS
          refine k_put (M0 := M0) (M := cP 8 M a0 9 (.int x3)) C hE.1 (ci := 8) i_Ma rfl 4 (by decide) (by decide) kf_Ma_54 t_Ma t_Ma_ok n_Ma rfl (nf_i _) d_Ma_raise_100 ho73 ?_
          replace hle := cLe.cP (ci := 8) (a := a0) (k := 4) (v := .int 4) hle
          refine g_goto C 193 d_Ma_raise_103 (by decide) ?_
          exact c_vret (M := cP 8 (cP 8 M a0 9 (.int x3)) a0 4 (.int 4)) C hr hlocks hle d_Ma_raise_193 (by rw [← hF]; exact ⟨rfl, rfl⟩)
      · rw [if_neg hc38] at hF hS
        refine g_iload C d_Ma_raise_51 rfl ?_
        refine g_sipush (v := 400) C d_Ma_raise_53 (by decide) ?_
        refine g_icmp_gt C 87 d_Ma_raise_56 (by decide) (fun hc74 => ?_) (fun hc74 => ?_)
        · rw [if_pos hc74] at hF hS
          refine g_iload C d_Ma_raise_87 rfl ?_
          refine g_iconst (v := (-1)) C d_Ma_raise_89 (by decide) ?_
          refine g_icmp_ne C 106 d_Ma_raise_90 (by decide) (fun hc75 => ?_) (fun hc75 => ?_)
          · rw [if_neg hc75] at hF hS
            refine g_aload_n C d_Ma_raise_106 rfl ?_
            refine g_iconst (v := 1) C d_Ma_raise_107 (by decide) ?_
            refine g_iload C d_Ma_raise_108 rfl ?_
            refine g_iadd C d_Ma_raise_110 ?_
            obtain ⟨ho76, hS⟩ := hS
            obtain ⟨hs77, hS⟩ := hS
            refine c_call (av := [.ref a0, .int (1 + x7)]) (rest := []) C hE (fun _ h => h) ⟨rfl, rfl⟩ hle (cc_Ma_isFull l hf D cs B dE lim _ a0 (1 + x7) hs77) (fun _ h => h) kd_Ma_isFull ki_Ma (Nat.le_of_ble_eq_true rfl) (Nat.le_of_ble_eq_true rfl) d_Ma_raise_111 (Nat.le_of_ble_eq_true rfl) (c_fV (n := 1) (ci := 8) C hE.1 rfl km_Ma_140 kv_Ma_isFull kl_Ma_isFull kd_Ma_isFull ⟨by decide, by decide, by decide⟩ rfl rfl d_Ma_raise_111 ho76) (fun v1 M1 hv hle => ?_) (fun E1 M1 hv hle => ?_)
            · rw [mbind_eq] at hF hS
              obtain ⟨hx, hM1⟩ := hv
              have hM2 := hM1.symm
              subst hM2
              generalize hq_w78 : F_Ma_isFull cs M a0 (1 + x7) = w78 at hF hS hx hle ⊢
              cases hx
              refine GW.eqs (st' := [.int w78.1]) rfl ?_
              refine g_if_ne C 193 d_Ma_raise_114 (by decide) (fun hc79 => ?_) (fun hc79 => ?_)
              · rw [if_neg hc79] at hF hS
                exact c_vret (M := w78.2) C hr hlocks hle d_Ma_raise_193 (by rw [← hF]; exact ⟨rfl, rfl⟩)
              · rw [if_pos hc79] at hF hS
                refine q_aload (r := x5) C d_Ma_raise_117 rfl ?_
                obtain ⟨ho80, hS⟩ := hS
                refine GW.known1 (a := x5.getD 0) (cOq.at ho80).1 ?_
                refine c_getqN C hE.1 (ci := 10) i_Fr rfl 4 (by decide) (by decide) (by decide) (gE_fN hE kf_Ma_51) d_Ma_raise_119 (cOq.at ho80).2 ?_
                refine q_astore (r := cQ w78.2 (x5.getD 0) 4) (lv' := [(8, va_rf (cQ w78.2 (x5.getD 0) 4)), (0, .ref a0), (1, va_rf x1), (2, .int x2), (3, .int x3), (4, .int x4), (5, va_rf x5), (6, .int x6), (7, .int x7)]) C d_Ma_raise_122 (by decide) rfl ?_
                refine g_aload_n C d_Ma_raise_124 rfl ?_
                refine q_aload (r := x5) C d_Ma_raise_125 rfl ?_
                refine g_iload C d_Ma_raise_127 rfl ?_
                obtain ⟨ho81, hS⟩ := hS
                obtain ⟨hs82, hS⟩ := hS
                refine c_call (av := [.ref a0, va_rf x5, .int x7]) (rest := []) C hE (fun _ h => h) ⟨rfl, rfl⟩ hle (cc_Ma_holdFrames l hf D cs B dE lim _ a0 x5 x7 hs82) (fun _ h => h) kd_Ma_holdFrames ki_Ma (Nat.le_of_ble_eq_true rfl) (Nat.le_of_ble_eq_true rfl) d_Ma_raise_129 (Nat.le_of_ble_eq_true rfl) (c_fV (n := 2) (ci := 8) C hE.1 rfl km_Ma_199 kv_Ma_holdFrames kl_Ma_holdFrames kd_Ma_holdFrames ⟨by decide, by decide, by decide⟩ rfl rfl d_Ma_raise_129 ho81) (fun v1 M1 hv hle => ?_) (fun E1 M1 hv hle => ?_)
                · rw [mbind_eq] at hF hS
                  obtain ⟨hx, hM1⟩ := hv
                  have hM2 := hM1.symm
                  subst hM2
                  generalize hq_w83 : F_Ma_holdFrames cs dE w78.2 a0 x5 x7 = w83 at hF hS hx hle ⊢
                  cases hx
                  refine GW.eqs (st' := [.int w83.1]) rfl ?_
                  refine g_istore (lv' := [(9, .int w83.1), (8, va_rf (cQ w78.2 (x5.getD 0) 4)), (0, .ref a0), (1, va_rf x1), (2, .int x2), (3, .int x3), (4, .int x4), (5, va_rf x5), (6, .int x6), (7, .int x7)]) C d_Ma_raise_132 (by decide) (by first | rfl | (simp only [lvs, List.filter, rf_cat]; rfl) | simp [lvs, List.filter, rf_cat]) ?_
                  refine g_aload_n C d_Ma_raise_134 rfl ?_
                  refine q_aload (r := cQ w78.2 (x5.getD 0) 4) C d_Ma_raise_135 rfl ?_
                  refine q_aload (r := x5) C d_Ma_raise_137 rfl ?_
                  obtain ⟨ho84, hS⟩ := hS
                  refine GW.known1 (a := x5.getD 0) (cOq.at ho84).1 ?_
                  refine c_getqN C hE.1 (ci := 10) i_Fr rfl 3 (by decide) (by decide) (by decide) (gE_fN hE kf_Ma_168) d_Ma_raise_139 (cOq.at ho84).2 ?_
                  refine g_aload_n C d_Ma_raise_142 rfl ?_
                  obtain ⟨ho85, hS⟩ := hS
                  refine c_getq C hE.1 (ci := 8) i_Ma rfl 0 (by decide) (by decide) (by decide) kf_Ma_18 d_Ma_raise_143 ho85 ?_
                  refine g_iload C d_Ma_raise_146 rfl ?_
                  refine g_iconst (v := 2) C d_Ma_raise_148 (by decide) ?_
                  obtain ⟨ho86, hS⟩ := hS
                  refine GW.known3 (a := (cQ w83.2 a0 0).getD 0) (cOq.at ho86).1 ?_
                  obtain ⟨hs87, hS⟩ := hS
                  refine c_call (av := [.ref ((cQ w83.2 a0 0).getD 0), .int x6, .int 2]) (rest := [va_rf (cQ w83.2 (x5.getD 0) 3), va_rf (cQ w78.2 (x5.getD 0) 4), .ref a0]) C hE (fun _ h => h) ⟨rfl, rfl⟩ hle (cc_Co_field l hf D cs B dE lim _ ((cQ w83.2 a0 0).getD 0) x6 2 hs87) (fun _ h => h.elim) kd_Co_field ki_Co (Nat.le_of_ble_eq_true rfl) (Nat.le_of_ble_eq_true rfl) d_Ma_raise_149 (by simp only [List.map_cons, List.map_nil, rf_cat, List.sum_cons, List.sum_nil]; exact Nat.le_of_ble_eq_true rfl) (c_fV (n := 2) (ci := 7) C hE.1 rfl km_Ma_86 kv_Co_field kl_Co_field kd_Co_field ⟨by decide, by decide, by decide⟩ rfl rfl d_Ma_raise_149 (cOq.at ho86).2) (fun v1 M1 hv hle => ?_) (fun E1 M1 hv hle => ?_)
                  · rw [mbind_eq] at hF hS
                    obtain ⟨hx, hM1⟩ := hv
                    have hM2 := hM1.symm
                    subst hM2
                    generalize hq_w88 : F_Co_field cs w83.2 ((cQ w83.2 a0 0).getD 0) x6 2 = w88 at hF hS hx hle ⊢
                    cases hx
                    refine GW.eqs (st' := [.int w88, va_rf (cQ w83.2 (x5.getD 0) 3), va_rf (cQ w78.2 (x5.getD 0) 4), .ref a0]) rfl ?_
                    obtain ⟨ho89, hS⟩ := hS
                    obtain ⟨hs90, hS⟩ := hS
                    refine c_call (av := [.ref a0, va_rf (cQ w78.2 (x5.getD 0) 4), va_rf (cQ w83.2 (x5.getD 0) 3), .int w88]) (rest := []) C hE (fun _ h => h) ⟨rfl, rfl⟩ hle (cc_Ma_enter l hf D cs B dE lim _ a0 (cQ w78.2 (x5.getD 0) 4) (cQ w83.2 (x5.getD 0) 3) w88 hs90) (fun _ h => h) kd_Ma_enter ki_Ma (Nat.le_of_ble_eq_true rfl) (Nat.le_of_ble_eq_true rfl) d_Ma_raise_152 (Nat.le_of_ble_eq_true rfl) (c_fV (n := 3) (ci := 8) C hE.1 rfl km_Ma_164 kv_Ma_enter kl_Ma_enter kd_Ma_enter ⟨by decide, by decide, by decide⟩ rfl rfl d_Ma_raise_152 ho89) (fun v1 M1 hv hle => ?_) (fun E1 M1 hv hle => ?_)
                    · rw [mbind_eq] at hF hS
                      obtain ⟨hx, hM1⟩ := hv
                      have hM2 := hM1.symm
                      subst hM2
                      generalize hq_w91 : F_Ma_enter cs dE w83.2 a0 (cQ w78.2 (x5.getD 0) 4) (cQ w83.2 (x5.getD 0) 3) w88 = w91 at hF hS hx hle ⊢
                      cases hx
                      refine GW.eqs (st' := []) rfl ?_
                      refine g_aload_n C d_Ma_raise_155 rfl ?_
                      obtain ⟨ho92, hS⟩ := hS
                      refine c_getq C hE.1 (ci := 8) i_Ma rfl 10 (by decide) (by decide) (by decide) kf_Ma_41 d_Ma_raise_156 ho92 ?_
                      refine g_aload_n C d_Ma_raise_159 rfl ?_
                      obtain ⟨ho93, hS⟩ := hS
                      refine c_getq C hE.1 (ci := 8) i_Ma rfl 0 (by decide) (by decide) (by decide) kf_Ma_18 d_Ma_raise_160 ho93 ?_
                      refine g_iload C d_Ma_raise_163 rfl ?_
                      refine g_iconst (v := 3) C d_Ma_raise_165 (by decide) ?_
                      obtain ⟨ho94, hS⟩ := hS
                      refine GW.known3 (a := (cQ w91 a0 0).getD 0) (cOq.at ho94).1 ?_
                      obtain ⟨hs95, hS⟩ := hS
                      refine c_call (av := [.ref ((cQ w91 a0 0).getD 0), .int x6, .int 3]) (rest := [va_rf (cQ w91 a0 10)]) C hE (fun _ h => h) ⟨rfl, rfl⟩ hle (cc_Co_field l hf D cs B dE lim _ ((cQ w91 a0 0).getD 0) x6 3 hs95) (fun _ h => h.elim) kd_Co_field ki_Co (Nat.le_of_ble_eq_true rfl) (Nat.le_of_ble_eq_true rfl) d_Ma_raise_166 (by simp only [List.map_cons, List.map_nil, rf_cat, List.sum_cons, List.sum_nil]; exact Nat.le_of_ble_eq_true rfl) (c_fV (n := 2) (ci := 7) C hE.1 rfl km_Ma_86 kv_Co_field kl_Co_field kd_Co_field ⟨by decide, by decide, by decide⟩ rfl rfl d_Ma_raise_166 (cOq.at ho94).2) (fun v1 M1 hv hle => ?_) (fun E1 M1 hv hle => ?_)
                      · rw [mbind_eq] at hF hS
                        obtain ⟨hx, hM1⟩ := hv
                        have hM2 := hM1.symm
                        subst hM2
                        generalize hq_w96 : F_Co_field cs w91 ((cQ w91 a0 0).getD 0) x6 3 = w96 at hF hS hx hle ⊢
                        cases hx
                        refine GW.eqs (st' := [.int w96, va_rf (cQ w91 a0 10)]) rfl ?_
                        refine g_iload C d_Ma_raise_169 rfl ?_
                        obtain ⟨ho97, hS⟩ := hS
                        refine GW.known3 (a := (cQ w91 a0 10).getD 0) (cOq.at ho97).1 ?_
                        obtain ⟨hs98, hS⟩ := hS
                        refine c_call (av := [.ref ((cQ w91 a0 10).getD 0), .int w96, .int x4]) (rest := []) C hE (fun _ h => h) ⟨rfl, rfl⟩ hle (cc_Fr_give l hf D cs B dE lim _ ((cQ w91 a0 10).getD 0) w96 x4 hs98) (fun _ h => h) kd_Fr_give ki_Fr (Nat.le_of_ble_eq_true rfl) (Nat.le_of_ble_eq_true rfl) d_Ma_raise_171 (Nat.le_of_ble_eq_true rfl) (c_fV (n := 2) (ci := 10) C hE.1 rfl km_Ma_136 kv_Fr_give kl_Fr_give kd_Fr_give ⟨by decide, by decide, by decide⟩ rfl rfl d_Ma_raise_171 (cOq.at ho97).2) (fun v1 M1 hv hle => ?_) (fun E1 M1 hv hle => ?_)
                        · rw [mbind_eq] at hF hS
                          obtain ⟨hx, hM1⟩ := hv
                          have hM2 := hM1.symm
                          subst hM2
                          generalize hq_w99 : F_Fr_give cs w91 ((cQ w91 a0 10).getD 0) w96 x4 = w99 at hF hS hx hle ⊢
                          cases hx
                          refine GW.eqs (st' := []) rfl ?_
                          refine g_aload_n C d_Ma_raise_174 rfl ?_
                          obtain ⟨ho100, hS⟩ := hS
                          refine c_getq C hE.1 (ci := 8) i_Ma rfl 10 (by decide) (by decide) (by decide) kf_Ma_41 d_Ma_raise_175 ho100 ?_
                          refine g_aload_n C d_Ma_raise_178 rfl ?_
                          obtain ⟨ho101, hS⟩ := hS
                          refine c_getq C hE.1 (ci := 8) i_Ma rfl 0 (by decide) (by decide) (by decide) kf_Ma_18 d_Ma_raise_179 ho101 ?_
                          refine g_iload C d_Ma_raise_182 rfl ?_
                          refine g_iconst (v := 4) C d_Ma_raise_184 (by decide) ?_
                          obtain ⟨ho102, hS⟩ := hS
                          refine GW.known3 (a := (cQ w99 a0 0).getD 0) (cOq.at ho102).1 ?_
                          obtain ⟨hs103, hS⟩ := hS
                          refine c_call (av := [.ref ((cQ w99 a0 0).getD 0), .int x6, .int 4]) (rest := [va_rf (cQ w99 a0 10)]) C hE (fun _ h => h) ⟨rfl, rfl⟩ hle (cc_Co_field l hf D cs B dE lim _ ((cQ w99 a0 0).getD 0) x6 4 hs103) (fun _ h => h.elim) kd_Co_field ki_Co (Nat.le_of_ble_eq_true rfl) (Nat.le_of_ble_eq_true rfl) d_Ma_raise_185 (by simp only [List.map_cons, List.map_nil, rf_cat, List.sum_cons, List.sum_nil]; exact Nat.le_of_ble_eq_true rfl) (c_fV (n := 2) (ci := 7) C hE.1 rfl km_Ma_86 kv_Co_field kl_Co_field kd_Co_field ⟨by decide, by decide, by decide⟩ rfl rfl d_Ma_raise_185 (cOq.at ho102).2) (fun v1 M1 hv hle => ?_) (fun E1 M1 hv hle => ?_)
                          · rw [mbind_eq] at hF hS
                            obtain ⟨hx, hM1⟩ := hv
                            have hM2 := hM1.symm
                            subst hM2
                            generalize hq_w104 : F_Co_field cs w99 ((cQ w99 a0 0).getD 0) x6 4 = w104 at hF hS hx hle ⊢
                            cases hx
                            refine GW.eqs (st' := [.int w104, va_rf (cQ w99 a0 10)]) rfl ?_
                            refine g_iload C d_Ma_raise_188 rfl ?_
                            obtain ⟨ho105, hS⟩ := hS
                            refine GW.known3 (a := (cQ w99 a0 10).getD 0) (cOq.at ho105).1 ?_
                            obtain ⟨hs106, hS⟩ := hS
                            refine c_call (av := [.ref ((cQ w99 a0 10).getD 0), .int w104, .int w83.1]) (rest := []) C hE (fun _ h => h) ⟨rfl, rfl⟩ hle (cc_Fr_give l hf D cs B dE lim _ ((cQ w99 a0 10).getD 0) w104 w83.1 hs106) (fun _ h => h) kd_Fr_give ki_Fr (Nat.le_of_ble_eq_true rfl) (Nat.le_of_ble_eq_true rfl) d_Ma_raise_190 (Nat.le_of_ble_eq_true rfl) (c_fV (n := 2) (ci := 10) C hE.1 rfl km_Ma_136 kv_Fr_give kl_Fr_give kd_Fr_give ⟨by decide, by decide, by decide⟩ rfl rfl d_Ma_raise_190 (cOq.at ho105).2) (fun v1 M1 hv hle => ?_) (fun E1 M1 hv hle => ?_)
                            · rw [mbind_eq] at hF hS
                              obtain ⟨hx, hM1⟩ := hv
                              have hM2 := hM1.symm
                              subst hM2
                              generalize hq_w107 : F_Fr_give cs w99 ((cQ w99 a0 10).getD 0) w104 w83.1 = w107 at hF hS hx hle ⊢
                              cases hx
                              refine GW.eqs (st' := []) rfl ?_
                              exact c_vret (M := w107) C hr hlocks hle d_Ma_raise_193 (by rw [← hF]; exact ⟨rfl, rfl⟩)
                            · cases hv.1
                          · cases hv.1
                        · cases hv.1
                      · cases hv.1
                    · cases hv.1
                  · cases hv.1
                · cases hv.1
            · cases hv.1
          · rw [if_pos hc75] at hF hS
            refine g_aload_n C d_Ma_raise_93 rfl ?_
            refine g_iload_n C d_Ma_raise_94 rfl ?_
            obtain ⟨ho108, hS⟩ := hS
            refine k_put (M0 := M0) (M := M) C hE.1 (ci := 8) i_Ma rfl 9 (by decide) (by decide) kf_Ma_22 t_Ma t_Ma_ok n_Ma rfl (nf_i _) d_Ma_raise_95 ho108 ?_
            replace hle := cLe.cP (ci := 8) (a := a0) (k := 9) (v := .int x3) hle
            refine g_aload_n C d_Ma_raise_98 rfl ?_
            refine g_iconst (v := 4) C d_Ma_raise_99 (by decide) ?_
            obtain ⟨ho109, hS⟩ := hS
            refine k_put (M0 := M0) (M := cP 8 M a0 9 (.int x3)) C hE.1 (ci := 8) i_Ma rfl 4 (by decide) (by decide) kf_Ma_54 t_Ma t_Ma_ok n_Ma rfl (nf_i _) d_Ma_raise_100 ho109 ?_
            replace hle := cLe.cP (ci := 8) (a := a0) (k := 4) (v := .int 4) hle
            refine g_goto C 193 d_Ma_raise_103 (by decide) ?_
            exact c_vret (M := cP 8 (cP 8 M a0 9 (.int x3)) a0 4 (.int 4)) C hr hlocks hle d_Ma_raise_193 (by rw [← hF]; exact ⟨rfl, rfl⟩)
        · rw [if_neg hc74] at hF hS
          refine q_aload (r := x5) C d_Ma_raise_59 rfl ?_
          obtain ⟨ho110, hS⟩ := hS
          refine GW.known1 (a := x5.getD 0) (cOq.at ho110).1 ?_
          refine c_getqN C hE.1 (ci := 10) i_Fr rfl 4 (by decide) (by decide) (by decide) (gE_fN hE kf_Ma_51) d_Ma_raise_61 (cOq.at ho110).2 ?_
          refine q_astore (r := cQ M (x5.getD 0) 4) (lv' := [(5, va_rf (cQ M (x5.getD 0) 4)), (0, .ref a0), (1, va_rf x1), (2, .int x2), (3, .int x3), (4, .int x4), (6, .int x6), (7, .int x7)]) C d_Ma_raise_64 (by decide) rfl ?_
          refine g_aload_n C d_Ma_raise_66 rfl ?_
          obtain ⟨ho111, hS⟩ := hS
          refine c_getq C hE.1 (ci := 8) i_Ma rfl 0 (by decide) (by decide) (by decide) kf_Ma_18 d_Ma_raise_67 ho111 ?_
          refine q_aload (r := cQ M (x5.getD 0) 4) C d_Ma_raise_70 rfl ?_
          obtain ⟨ho112, hS⟩ := hS
          refine GW.known1 (a := (cQ M (x5.getD 0) 4).getD 0) (cOq.at ho112).1 ?_
          refine c_getqN C hE.1 (ci := 10) i_Fr rfl 3 (by decide) (by decide) (by decide) (gE_fN hE kf_Ma_168) d_Ma_raise_72 (cOq.at ho112).2 ?_
          refine g_iload_n C d_Ma_raise_75 rfl ?_
          obtain ⟨ho113, hS⟩ := hS
          refine GW.known3 (a := (cQ M a0 0).getD 0) (cOq.at ho113).1 ?_
          obtain ⟨hs114, hS⟩ := hS
          refine c_call (av := [.ref ((cQ M a0 0).getD 0), va_rf (cQ M ((cQ M (x5.getD 0) 4).getD 0) 3), .int x3]) (rest := []) C hE (fun _ h => h) ⟨rfl, rfl⟩ hle (cc_Co_caseOf l hf D cs B dE lim n _ ((cQ M a0 0).getD 0) (cQ M ((cQ M (x5.getD 0) 4).getD 0) 3) x3 hs114) (fun _ h => h.elim) kd_Co_caseOf ki_Co (Nat.le_of_ble_eq_true rfl) (Nat.le_of_ble_eq_true rfl) d_Ma_raise_76 (Nat.le_of_ble_eq_true rfl) (c_fV (n := 2) (ci := 7) C hE.1 rfl km_Ma_195 kv_Co_caseOf kl_Co_caseOf kd_Co_caseOf ⟨by decide, by decide, by decide⟩ rfl rfl d_Ma_raise_76 (cOq.at ho113).2) (fun v1 M1 hv hle => ?_) (fun E1 M1 hv hle => ?_)
          · rw [mbind_eq] at hF hS
            obtain ⟨hx, hM1⟩ := hv
            have hM2 := hM1.symm
            subst hM2
            generalize hq_w115 : F_Co_caseOf cs n M ((cQ M a0 0).getD 0) (cQ M ((cQ M (x5.getD 0) 4).getD 0) 3) x3 = w115 at hF hS hx hle ⊢
            cases hx
            refine GW.eqs (st' := [.int w115]) rfl ?_
            refine g_istore (lv' := [(6, .int w115), (5, va_rf (cQ M (x5.getD 0) 4)), (0, .ref a0), (1, va_rf x1), (2, .int x2), (3, .int x3), (4, .int x4), (7, .int x7)]) C d_Ma_raise_79 (by decide) (by first | rfl | (simp only [lvs, List.filter, rf_cat]; rfl) | simp [lvs, List.filter, rf_cat]) ?_
            refine g_iinc (v := x7 + 1) (lv' := [(7, .int (x7 + 1)), (6, .int w115), (5, va_rf (cQ M (x5.getD 0) 4)), (0, .ref a0), (1, va_rf x1), (2, .int x2), (3, .int x3), (4, .int x4)]) C d_Ma_raise_81 rfl rfl (by decide) rfl ?_
            refine g_goto C 37 d_Ma_raise_84 (by decide) ?_
            refine GW.subl [3, 4, 5, 6, 7, 2, 1, 0] rfl ?_
            exact ih M a0 x1 x2 x3 x4 (cQ M (x5.getD 0) 4) w115 (x7 + 1) Fv hle hS hF
          · cases hv.1
def F_Ma_raise (cs : Nat → ClassId) (dE : Nat × Nat) (n : Nat) (M : gMem) (a0 : Nat) (x1 : Option Nat) (x2 : Int32) (x3 : Int32) : gMem := mbind (F_Ma_takesFuel cs M a0 x1 x2) (fun w3 => if w3.1 = 0 then (w3.2) else (mbind (F_Fr_pop cs w3.2 (x1.getD 0) ) (fun w7 => mbind (F_Co_caseOf cs n w7.2 ((cQ w7.2 a0 0).getD 0) (cQ w7.2 (x1.getD 0) 3) x3) (fun w12 => F_Ma_raise_37 cs dE n w7.2 a0 x1 x2 x3 w7.1 x1 w12 1))))
def S_Ma_raise (cs : Nat → ClassId) (lim : Nat × Nat) (dE : Nat × Nat) (n : Nat) (M : gMem) (a0 : Nat) (x1 : Option Nat) (x2 : Int32) (x3 : Int32) : Prop := (cOk 8 M a0) ∧ ((S_Ma_takesFuel cs lim M a0 x1 x2) ∧ (mbind (F_Ma_takesFuel cs M a0 x1 x2) (fun w3 => if w3.1 = 0 then (True) else ((cOq 10 w3.2 x1) ∧ ((S_Fr_pop cs lim w3.2 (x1.getD 0) ) ∧ (mbind (F_Fr_pop cs w3.2 (x1.getD 0) ) (fun w7 => (cOk 8 w7.2 a0) ∧ ((cOq 10 w7.2 x1) ∧ ((cOq 7 w7.2 (cQ w7.2 a0 0)) ∧ ((S_Co_caseOf cs lim n w7.2 ((cQ w7.2 a0 0).getD 0) (cQ w7.2 (x1.getD 0) 3) x3) ∧ (mbind (F_Co_caseOf cs n w7.2 ((cQ w7.2 a0 0).getD 0) (cQ w7.2 (x1.getD 0) 3) x3) (fun w12 => S_Ma_raise_37 cs lim dE n w7.2 a0 x1 x2 x3 w7.1 x1 w12 1))))))))))))
set_option maxRecDepth 100000 in
set_option maxHeartbeats 4000000 in
theorem cc_Ma_raise (l : Launch) (hf : l.flags = pinnedFlags ++ [noTraceFlag]) (D : va_G) (cs : Nat → ClassId) (B : Nat) (dE : Nat × Nat) (lim : Nat × Nat) (n : Nat) (M : gMem) (a0 : Nat) (x1 : Option Nat) (x2 : Int32) (x3 : Int32) (hS : S_Ma_raise cs lim dE n M a0 x1 x2 x3) : cMet l y_Ma_raise (Cond.code y_Ma_raise c_Ma_raise 10 none) (11) (236) D cs B dE (gA B) lim [.ref a0, va_rf x1, .int x2, .int x3] M (fun x M' => x = .inl none ∧ M' = (F_Ma_raise cs dE n M a0 x1 x2 x3)) := by
  refine cMet.ofW (by decide) (by cases x1 <;> exact Nat.le_of_ble_eq_true rfl) (lv0 := [(0, .ref a0), (1, va_rf x1), (2, .int x2), (3, .int x3)]) (by cases x1 <;> rfl) ?_
  intro p e s m args below meth c C hE hR0 hle hr hlocks hex hn
  generalize hF : F_Ma_raise cs dE n M a0 x1 x2 x3 = Fv
  unfold F_Ma_raise at hF
  unfold S_Ma_raise at hS
  refine g_aload_n C d_Ma_raise_0 rfl ?_
  refine q_aload_n (r := x1) C d_Ma_raise_1 rfl ?_
  refine g_iload_n C d_Ma_raise_2 rfl ?_
  refine GW.more (A' := gA B) (fun _ h => h.elim) ?_
  obtain ⟨ho1, hS⟩ := hS
  obtain ⟨hs2, hS⟩ := hS
  refine c_call (av := [.ref a0, va_rf x1, .int x2]) (rest := []) C hE (fun _ h => h) ⟨rfl, rfl⟩ hle (cc_Ma_takesFuel l hf D cs B dE lim _ a0 x1 x2 hs2) (fun _ h => h) kd_Ma_takesFuel ki_Ma (Nat.le_of_ble_eq_true rfl) (Nat.le_of_ble_eq_true rfl) d_Ma_raise_3 (Nat.le_of_ble_eq_true rfl) (c_fV (n := 2) (ci := 8) C hE.1 rfl km_Ma_173 kv_Ma_takesFuel kl_Ma_takesFuel kd_Ma_takesFuel ⟨by decide, by decide, by decide⟩ rfl rfl d_Ma_raise_3 ho1) (fun v1 M1 hv hle => ?_) (fun E1 M1 hv hle => ?_)
  · rw [mbind_eq] at hF hS
    obtain ⟨hx, hM1⟩ := hv
    have hM2 := hM1.symm
    subst hM2
    generalize hq_w3 : F_Ma_takesFuel cs M a0 x1 x2 = w3 at hF hS hx hle ⊢
    cases hx
    refine GW.eqs (st' := [.int w3.1]) rfl ?_
    refine g_if_ne C 10 d_Ma_raise_6 (by decide) (fun hc4 => ?_) (fun hc4 => ?_)
    · rw [if_neg hc4] at hF hS
      refine q_aload_n (r := x1) C d_Ma_raise_10 rfl ?_
      obtain ⟨ho5, hS⟩ := hS
      refine GW.known1 (a := x1.getD 0) (cOq.at ho5).1 ?_
      obtain ⟨hs6, hS⟩ := hS
      refine c_call (av := [.ref (x1.getD 0)]) (rest := []) C hE (fun _ h => h) ⟨rfl, rfl⟩ hle (cc_Fr_pop l hf D cs B dE lim _ (x1.getD 0)  hs6) (fun _ h => h) kd_Fr_pop ki_Fr (Nat.le_of_ble_eq_true rfl) (Nat.le_of_ble_eq_true rfl) d_Ma_raise_11 (Nat.le_of_ble_eq_true rfl) (c_fV (n := 0) (ci := 10) C hE.1 rfl km_Ma_109 kv_Fr_pop kl_Fr_pop kd_Fr_pop ⟨by decide, by decide, by decide⟩ rfl rfl d_Ma_raise_11 (cOq.at ho5).2) (fun v1 M1 hv hle => ?_) (fun E1 M1 hv hle => ?_)
      · rw [mbind_eq] at hF hS
        obtain ⟨hx, hM1⟩ := hv
        have hM2 := hM1.symm
        subst hM2
        generalize hq_w7 : F_Fr_pop cs w3.2 (x1.getD 0)  = w7 at hF hS hx hle ⊢
        cases hx
        refine GW.eqs (st' := [.int w7.1]) rfl ?_
        refine g_istore (lv' := [(4, .int w7.1), (0, .ref a0), (1, va_rf x1), (2, .int x2), (3, .int x3)]) C d_Ma_raise_14 (by decide) rfl ?_
        refine q_aload_n (r := x1) C d_Ma_raise_16 rfl ?_
        refine q_astore (r := x1) (lv' := [(5, va_rf x1), (4, .int w7.1), (0, .ref a0), (1, va_rf x1), (2, .int x2), (3, .int x3)]) C d_Ma_raise_17 (by decide) rfl ?_
        refine g_aload_n C d_Ma_raise_19 rfl ?_
        obtain ⟨ho8, hS⟩ := hS
        refine c_getq C hE.1 (ci := 8) i_Ma rfl 0 (by decide) (by decide) (by decide) kf_Ma_18 d_Ma_raise_20 ho8 ?_
        refine q_aload (r := x1) C d_Ma_raise_23 rfl ?_
        obtain ⟨ho9, hS⟩ := hS
        refine GW.known1 (a := x1.getD 0) (cOq.at ho9).1 ?_
        refine c_getqN C hE.1 (ci := 10) i_Fr rfl 3 (by decide) (by decide) (by decide) (gE_fN hE kf_Ma_168) d_Ma_raise_25 (cOq.at ho9).2 ?_
        refine g_iload_n C d_Ma_raise_28 rfl ?_
        obtain ⟨ho10, hS⟩ := hS
        refine GW.known3 (a := (cQ w7.2 a0 0).getD 0) (cOq.at ho10).1 ?_
        obtain ⟨hs11, hS⟩ := hS
        refine c_call (av := [.ref ((cQ w7.2 a0 0).getD 0), va_rf (cQ w7.2 (x1.getD 0) 3), .int x3]) (rest := []) C hE (fun _ h => h) ⟨rfl, rfl⟩ hle (cc_Co_caseOf l hf D cs B dE lim n _ ((cQ w7.2 a0 0).getD 0) (cQ w7.2 (x1.getD 0) 3) x3 hs11) (fun _ h => h.elim) kd_Co_caseOf ki_Co (Nat.le_of_ble_eq_true rfl) (Nat.le_of_ble_eq_true rfl) d_Ma_raise_29 (Nat.le_of_ble_eq_true rfl) (c_fV (n := 2) (ci := 7) C hE.1 rfl km_Ma_195 kv_Co_caseOf kl_Co_caseOf kd_Co_caseOf ⟨by decide, by decide, by decide⟩ rfl rfl d_Ma_raise_29 (cOq.at ho10).2) (fun v1 M1 hv hle => ?_) (fun E1 M1 hv hle => ?_)
        · rw [mbind_eq] at hF hS
          obtain ⟨hx, hM1⟩ := hv
          have hM2 := hM1.symm
          subst hM2
          generalize hq_w12 : F_Co_caseOf cs n w7.2 ((cQ w7.2 a0 0).getD 0) (cQ w7.2 (x1.getD 0) 3) x3 = w12 at hF hS hx hle ⊢
          cases hx
          refine GW.eqs (st' := [.int w12]) rfl ?_
          refine g_istore (lv' := [(6, .int w12), (5, va_rf x1), (4, .int w7.1), (0, .ref a0), (1, va_rf x1), (2, .int x2), (3, .int x3)]) C d_Ma_raise_32 (by decide) (by first | rfl | (simp only [lvs, List.filter, rf_cat]; rfl) | simp [lvs, List.filter, rf_cat]) ?_
          refine g_iconst (v := 1) C d_Ma_raise_34 (by decide) ?_
          refine g_istore (lv' := [(7, .int 1), (6, .int w12), (5, va_rf x1), (4, .int w7.1), (0, .ref a0), (1, va_rf x1), (2, .int x2), (3, .int x3)]) C d_Ma_raise_35 (by decide) rfl ?_
          refine GW.subl [4, 5, 6, 7, 3, 2, 1, 0] rfl ?_
          exact w_Ma_raise_37 C hE hf hr hlocks hex hn n w7.2 a0 x1 x2 x3 w7.1 x1 w12 1 Fv hle hS hF
        · cases hv.1
      · cases hv.1
    · rw [if_pos hc4] at hF hS
      exact c_vret (M := w3.2) C hr hlocks hle d_Ma_raise_9 (by rw [← hF]; exact ⟨rfl, rfl⟩)
  · cases hv.1
def F_Ma_end (cs : Nat → ClassId) (M : gMem) (a0 : Nat) (x1 : Option Nat) : gMem := mbind (F_Fr_pop cs M (x1.getD 0) ) (fun w3 => if (cQ w3.2 (x1.getD 0) 4) = none then (if (cI (cP 8 w3.2 a0 4 (.int 2)) a0 3) = 0 then (cP 8 (cP 8 w3.2 a0 4 (.int 2)) a0 5 (.int 0)) else (cP 8 (cP 8 w3.2 a0 4 (.int 2)) a0 5 (.int w3.1))) else (mbind (F_Fr_push cs w3.2 ((cQ w3.2 (x1.getD 0) 4).getD 0) w3.1) (fun w8 => mbind (F_St_giveBack cs (cP 8 (cP 8 w8 a0 10 (va_rf (cQ w3.2 (x1.getD 0) 4))) a0 8 (.int ((cI (cP 8 w8 a0 10 (va_rf (cQ w3.2 (x1.getD 0) 4))) a0 8) - 1))) ((cQ (cP 8 (cP 8 w8 a0 10 (va_rf (cQ w3.2 (x1.getD 0) 4))) a0 8 (.int ((cI (cP 8 w8 a0 10 (va_rf (cQ w3.2 (x1.getD 0) 4))) a0 8) - 1))) a0 1).getD 0) x1) (fun w15 => w15))))
def S_Ma_end (cs : Nat → ClassId) (lim : Nat × Nat) (M : gMem) (a0 : Nat) (x1 : Option Nat) : Prop := (cOq 10 M x1) ∧ ((S_Fr_pop cs lim M (x1.getD 0) ) ∧ (mbind (F_Fr_pop cs M (x1.getD 0) ) (fun w3 => (cOq 10 w3.2 x1) ∧ (if (cQ w3.2 (x1.getD 0) 4) = none then ((cOk 8 w3.2 a0) ∧ ((cOk 8 (cP 8 w3.2 a0 4 (.int 2)) a0) ∧ (if (cI (cP 8 w3.2 a0 4 (.int 2)) a0 3) = 0 then ((cOk 8 (cP 8 w3.2 a0 4 (.int 2)) a0) ∧ (True)) else ((cOk 8 (cP 8 w3.2 a0 4 (.int 2)) a0) ∧ (True))))) else ((cOq 10 w3.2 (cQ w3.2 (x1.getD 0) 4)) ∧ ((S_Fr_push cs lim w3.2 ((cQ w3.2 (x1.getD 0) 4).getD 0) w3.1) ∧ (mbind (F_Fr_push cs w3.2 ((cQ w3.2 (x1.getD 0) 4).getD 0) w3.1) (fun w8 => (cOk 8 w8 a0) ∧ ((cOk 8 (cP 8 w8 a0 10 (va_rf (cQ w3.2 (x1.getD 0) 4))) a0) ∧ ((cOk 8 (cP 8 w8 a0 10 (va_rf (cQ w3.2 (x1.getD 0) 4))) a0) ∧ ((cOk 8 (cP 8 (cP 8 w8 a0 10 (va_rf (cQ w3.2 (x1.getD 0) 4))) a0 8 (.int ((cI (cP 8 w8 a0 10 (va_rf (cQ w3.2 (x1.getD 0) 4))) a0 8) - 1))) a0) ∧ ((cOq 9 (cP 8 (cP 8 w8 a0 10 (va_rf (cQ w3.2 (x1.getD 0) 4))) a0 8 (.int ((cI (cP 8 w8 a0 10 (va_rf (cQ w3.2 (x1.getD 0) 4))) a0 8) - 1))) (cQ (cP 8 (cP 8 w8 a0 10 (va_rf (cQ w3.2 (x1.getD 0) 4))) a0 8 (.int ((cI (cP 8 w8 a0 10 (va_rf (cQ w3.2 (x1.getD 0) 4))) a0 8) - 1))) a0 1)) ∧ ((S_St_giveBack cs lim (cP 8 (cP 8 w8 a0 10 (va_rf (cQ w3.2 (x1.getD 0) 4))) a0 8 (.int ((cI (cP 8 w8 a0 10 (va_rf (cQ w3.2 (x1.getD 0) 4))) a0 8) - 1))) ((cQ (cP 8 (cP 8 w8 a0 10 (va_rf (cQ w3.2 (x1.getD 0) 4))) a0 8 (.int ((cI (cP 8 w8 a0 10 (va_rf (cQ w3.2 (x1.getD 0) 4))) a0 8) - 1))) a0 1).getD 0) x1) ∧ (mbind (F_St_giveBack cs (cP 8 (cP 8 w8 a0 10 (va_rf (cQ w3.2 (x1.getD 0) 4))) a0 8 (.int ((cI (cP 8 w8 a0 10 (va_rf (cQ w3.2 (x1.getD 0) 4))) a0 8) - 1))) ((cQ (cP 8 (cP 8 w8 a0 10 (va_rf (cQ w3.2 (x1.getD 0) 4))) a0 8 (.int ((cI (cP 8 w8 a0 10 (va_rf (cQ w3.2 (x1.getD 0) 4))) a0 8) - 1))) a0 1).getD 0) x1) (fun w15 => True)))))))))))))))
set_option maxRecDepth 100000 in
set_option maxHeartbeats 4000000 in
theorem cc_Ma_end (l : Launch) (hf : l.flags = pinnedFlags ++ [noTraceFlag]) (D : va_G) (cs : Nat → ClassId) (B : Nat) (dE : Nat × Nat) (lim : Nat × Nat) (M : gMem) (a0 : Nat) (x1 : Option Nat) (hS : S_Ma_end cs lim M a0 x1) : cMet l y_Ma_end (Cond.code y_Ma_end c_Ma_end 4 none) (1) (21) D cs B dE (gA B) lim [.ref a0, va_rf x1] M (fun x M' => x = .inl none ∧ M' = (F_Ma_end cs M a0 x1)) := by
  refine cMet.ofW (by decide) (by cases x1 <;> exact Nat.le_of_ble_eq_true rfl) (lv0 := [(0, .ref a0), (1, va_rf x1)]) (by cases x1 <;> rfl) ?_
  intro p e s m args below meth c C hE hR0 hle hr hlocks hex hn
  generalize hF : F_Ma_end cs M a0 x1 = Fv
  unfold F_Ma_end at hF
  unfold S_Ma_end at hS
  refine q_aload_n (r := x1) C d_Ma_end_0 rfl ?_
  refine GW.more (A' := gA B) (fun _ h => h.elim) ?_
  obtain ⟨ho1, hS⟩ := hS
  refine GW.known1 (a := x1.getD 0) (cOq.at ho1).1 ?_
  obtain ⟨hs2, hS⟩ := hS
  refine c_call (av := [.ref (x1.getD 0)]) (rest := []) C hE (fun _ h => h) ⟨rfl, rfl⟩ hle (cc_Fr_pop l hf D cs B dE lim _ (x1.getD 0)  hs2) (fun _ h => h) kd_Fr_pop ki_Fr (Nat.le_of_ble_eq_true rfl) (Nat.le_of_ble_eq_true rfl) d_Ma_end_1 (Nat.le_of_ble_eq_true rfl) (c_fV (n := 0) (ci := 10) C hE.1 rfl km_Ma_109 kv_Fr_pop kl_Fr_pop kd_Fr_pop ⟨by decide, by decide, by decide⟩ rfl rfl d_Ma_end_1 (cOq.at ho1).2) (fun v1 M1 hv hle => ?_) (fun E1 M1 hv hle => ?_)
  · rw [mbind_eq] at hF hS
    obtain ⟨hx, hM1⟩ := hv
    have hM2 := hM1.symm
    subst hM2
    generalize hq_w3 : F_Fr_pop cs M (x1.getD 0)  = w3 at hF hS hx hle ⊢
    cases hx
    refine GW.eqs (st' := [.int w3.1]) rfl ?_
    refine g_istore_n (lv' := [(2, .int w3.1), (0, .ref a0), (1, va_rf x1)]) C d_Ma_end_4 (by decide) (by first | rfl | (simp only [lvs, List.filter, rf_cat]; rfl) | simp [lvs, List.filter, rf_cat]) ?_
    refine q_aload_n (r := x1) C d_Ma_end_5 rfl ?_
    obtain ⟨ho4, hS⟩ := hS
    refine GW.known1 (a := x1.getD 0) (cOq.at ho4).1 ?_
    refine c_getqN C hE.1 (ci := 10) i_Fr rfl 4 (by decide) (by decide) (by decide) (gE_fN hE kf_Ma_51) d_Ma_end_6 (cOq.at ho4).2 ?_
    refine q_astore_n (r := cQ w3.2 (x1.getD 0) 4) (lv' := [(3, va_rf (cQ w3.2 (x1.getD 0) 4)), (2, .int w3.1), (0, .ref a0), (1, va_rf x1)]) C d_Ma_end_9 (by decide) rfl ?_
    refine q_aload_n (r := cQ w3.2 (x1.getD 0) 4) C d_Ma_end_10 rfl ?_
    refine q_ifnonnull C 36 d_Ma_end_11 (by decide) (fun hc5 => ?_) (fun hc5 => ?_)
    · rw [if_neg hc5] at hF hS
      refine q_aload_n (r := cQ w3.2 (x1.getD 0) 4) C d_Ma_end_36 rfl ?_
      refine g_iload_n C d_Ma_end_37 rfl ?_
      obtain ⟨ho6, hS⟩ := hS
      refine GW.known2 (a := (cQ w3.2 (x1.getD 0) 4).getD 0) (cOq.at ho6).1 ?_
      obtain ⟨hs7, hS⟩ := hS
      refine c_call (av := [.ref ((cQ w3.2 (x1.getD 0) 4).getD 0), .int w3.1]) (rest := []) C hE (fun _ h => h) ⟨rfl, rfl⟩ hle (cc_Fr_push l hf D cs B dE lim _ ((cQ w3.2 (x1.getD 0) 4).getD 0) w3.1 hs7) (fun _ h => h) kd_Fr_push ki_Fr (Nat.le_of_ble_eq_true rfl) (Nat.le_of_ble_eq_true rfl) d_Ma_end_38 (Nat.le_of_ble_eq_true rfl) (c_fV (n := 1) (ci := 10) C hE.1 rfl km_Ma_96 kv_Fr_push kl_Fr_push kd_Fr_push ⟨by decide, by decide, by decide⟩ rfl rfl d_Ma_end_38 (cOq.at ho6).2) (fun v1 M1 hv hle => ?_) (fun E1 M1 hv hle => ?_)
      · rw [mbind_eq] at hF hS
        obtain ⟨hx, hM1⟩ := hv
        have hM2 := hM1.symm
        subst hM2
        generalize hq_w8 : F_Fr_push cs w3.2 ((cQ w3.2 (x1.getD 0) 4).getD 0) w3.1 = w8 at hF hS hx hle ⊢
        cases hx
        refine GW.eqs (st' := []) rfl ?_
        refine g_aload_n C d_Ma_end_41 rfl ?_
        refine q_aload_n (r := cQ w3.2 (x1.getD 0) 4) C d_Ma_end_42 rfl ?_
        obtain ⟨ho9, hS⟩ := hS
        refine k_put (M0 := M) (M := w8) C hE.1 (ci := 8) i_Ma rfl 10 (by decide) (by decide) kf_Ma_41 t_Ma t_Ma_ok n_Ma rfl (nf_q _ (Or.inl ⟨_, rfl⟩) _) d_Ma_end_43 ho9 ?_
        replace hle := cLe.cP (ci := 8) (a := a0) (k := 10) (v := va_rf (cQ w3.2 (x1.getD 0) 4)) hle
        refine g_aload_n C d_Ma_end_46 rfl ?_
        refine g_dup C d_Ma_end_47 rfl ?_
        obtain ⟨ho10, hS⟩ := hS
        refine c_geti C hE.1 (ci := 8) i_Ma rfl 8 (by decide) (by decide) (by decide) kf_Ma_83 d_Ma_end_48 ho10 ?_
        refine g_iconst (v := 1) C d_Ma_end_51 (by decide) ?_
        refine g_isub C d_Ma_end_52 ?_
        obtain ⟨ho11, hS⟩ := hS
        refine k_put (M0 := M) (M := cP 8 w8 a0 10 (va_rf (cQ w3.2 (x1.getD 0) 4))) C hE.1 (ci := 8) i_Ma rfl 8 (by decide) (by decide) kf_Ma_83 t_Ma t_Ma_ok n_Ma rfl (nf_i _) d_Ma_end_53 ho11 ?_
        replace hle := cLe.cP (ci := 8) (a := a0) (k := 8) (v := .int ((cI (cP 8 w8 a0 10 (va_rf (cQ w3.2 (x1.getD 0) 4))) a0 8) - 1)) hle
        refine g_aload_n C d_Ma_end_56 rfl ?_
        obtain ⟨ho12, hS⟩ := hS
        refine c_getq C hE.1 (ci := 8) i_Ma rfl 1 (by decide) (by decide) (by decide) kf_Ma_12 d_Ma_end_57 ho12 ?_
        refine q_aload_n (r := x1) C d_Ma_end_60 rfl ?_
        obtain ⟨ho13, hS⟩ := hS
        refine GW.known2 (a := (cQ (cP 8 (cP 8 w8 a0 10 (va_rf (cQ w3.2 (x1.getD 0) 4))) a0 8 (.int ((cI (cP 8 w8 a0 10 (va_rf (cQ w3.2 (x1.getD 0) 4))) a0 8) - 1))) a0 1).getD 0) (cOq.at ho13).1 ?_
        obtain ⟨hs14, hS⟩ := hS
        refine c_call (av := [.ref ((cQ (cP 8 (cP 8 w8 a0 10 (va_rf (cQ w3.2 (x1.getD 0) 4))) a0 8 (.int ((cI (cP 8 w8 a0 10 (va_rf (cQ w3.2 (x1.getD 0) 4))) a0 8) - 1))) a0 1).getD 0), va_rf x1]) (rest := []) C hE (fun _ h => h) ⟨rfl, rfl⟩ hle (cc_St_giveBack l hf D cs B dE lim _ ((cQ (cP 8 (cP 8 w8 a0 10 (va_rf (cQ w3.2 (x1.getD 0) 4))) a0 8 (.int ((cI (cP 8 w8 a0 10 (va_rf (cQ w3.2 (x1.getD 0) 4))) a0 8) - 1))) a0 1).getD 0) x1 hs14) (fun _ h => h) kd_St_giveBack ki_St (Nat.le_of_ble_eq_true rfl) (Nat.le_of_ble_eq_true rfl) d_Ma_end_61 (Nat.le_of_ble_eq_true rfl) (c_fV (n := 1) (ci := 9) C hE.1 rfl km_Ma_207 kv_St_giveBack kl_St_giveBack kd_St_giveBack ⟨by decide, by decide, by decide⟩ rfl rfl d_Ma_end_61 (cOq.at ho13).2) (fun v1 M1 hv hle => ?_) (fun E1 M1 hv hle => ?_)
        · rw [mbind_eq] at hF hS
          obtain ⟨hx, hM1⟩ := hv
          have hM2 := hM1.symm
          subst hM2
          generalize hq_w15 : F_St_giveBack cs (cP 8 (cP 8 w8 a0 10 (va_rf (cQ w3.2 (x1.getD 0) 4))) a0 8 (.int ((cI (cP 8 w8 a0 10 (va_rf (cQ w3.2 (x1.getD 0) 4))) a0 8) - 1))) ((cQ (cP 8 (cP 8 w8 a0 10 (va_rf (cQ w3.2 (x1.getD 0) 4))) a0 8 (.int ((cI (cP 8 w8 a0 10 (va_rf (cQ w3.2 (x1.getD 0) 4))) a0 8) - 1))) a0 1).getD 0) x1 = w15 at hF hS hx hle ⊢
          cases hx
          refine GW.eqs (st' := []) rfl ?_
          exact c_vret (M := w15) C hr hlocks hle d_Ma_end_64 (by rw [← hF]; exact ⟨rfl, rfl⟩)
        · cases hv.1
      · cases hv.1
    · rw [if_pos hc5] at hF hS
      refine g_aload_n C d_Ma_end_14 rfl ?_
      refine g_iconst (v := 2) C d_Ma_end_15 (by decide) ?_
      obtain ⟨ho16, hS⟩ := hS
      refine k_put (M0 := M) (M := w3.2) C hE.1 (ci := 8) i_Ma rfl 4 (by decide) (by decide) kf_Ma_54 t_Ma t_Ma_ok n_Ma rfl (nf_i _) d_Ma_end_16 ho16 ?_
      replace hle := cLe.cP (ci := 8) (a := a0) (k := 4) (v := .int 2) hle
      refine g_aload_n C d_Ma_end_19 rfl ?_
      refine g_aload_n C d_Ma_end_20 rfl ?_
      obtain ⟨ho17, hS⟩ := hS
      refine c_geti C hE.1 (ci := 8) i_Ma rfl 3 (by decide) (by decide) (by decide) kf_Ma_33 d_Ma_end_21 ho17 ?_
      refine g_if_eq C 31 d_Ma_end_24 (by decide) (fun hc18 => ?_) (fun hc18 => ?_)
      · rw [if_pos hc18] at hF hS
        refine g_iconst (v := 0) C d_Ma_end_31 (by decide) ?_
        obtain ⟨ho19, hS⟩ := hS
        refine k_put (M0 := M) (M := cP 8 w3.2 a0 4 (.int 2)) C hE.1 (ci := 8) i_Ma rfl 5 (by decide) (by decide) kf_Ma_74 t_Ma t_Ma_ok n_Ma rfl (nf_i _) d_Ma_end_32 ho19 ?_
        replace hle := cLe.cP (ci := 8) (a := a0) (k := 5) (v := .int 0) hle
        exact c_vret (M := cP 8 (cP 8 w3.2 a0 4 (.int 2)) a0 5 (.int 0)) C hr hlocks hle d_Ma_end_35 (by rw [← hF]; exact ⟨rfl, rfl⟩)
      · rw [if_neg hc18] at hF hS
        refine g_iload_n C d_Ma_end_27 rfl ?_
        refine g_goto C 32 d_Ma_end_28 (by decide) ?_
        obtain ⟨ho20, hS⟩ := hS
        refine k_put (M0 := M) (M := cP 8 w3.2 a0 4 (.int 2)) C hE.1 (ci := 8) i_Ma rfl 5 (by decide) (by decide) kf_Ma_74 t_Ma t_Ma_ok n_Ma rfl (nf_i _) d_Ma_end_32 ho20 ?_
        replace hle := cLe.cP (ci := 8) (a := a0) (k := 5) (v := .int w3.1) hle
        exact c_vret (M := cP 8 (cP 8 w3.2 a0 4 (.int 2)) a0 5 (.int w3.1)) C hr hlocks hle d_Ma_end_35 (by rw [← hF]; exact ⟨rfl, rfl⟩)
  · cases hv.1
